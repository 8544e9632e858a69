/-! TREES OF THE CLASS: the right neighbour's first comes -/
section CTF
variable {d t j i : Nat} {w1 w2 : Int} {FS us FN ns R R' : List Nat}
/-- two neighbours' nodes among all of a tree -/
theorem V_nbF {S : B_S} {h n : Nat} {A B : List (N_i V_W (h + 1))} {u v : N_i V_W (h + 1)} (ha : B_all S j i FS us FN ns w1 w2) (hpn : ns.Perm (V_ns (h + 1) n (A ++ u :: v :: B) ++ R')) : (n ≠ V_n u.1 ∧ n ≠ V_n v.1 ∧ V_n u.1 ≠ V_n v.1) ∧ ((∀ m ∈ V_nk (h + 1) A, m ≠ n ∧ m ≠ V_n u.1 ∧ m ≠ V_n v.1) ∧ (∀ m ∈ V_nk (h + 1) B, m ≠ n ∧ m ≠ V_n u.1 ∧ m ≠ V_n v.1) ∧ (∀ m ∈ V_nk h u.2, m ≠ n ∧ m ≠ V_n u.1 ∧ m ≠ V_n v.1) ∧ (∀ m ∈ V_nk h v.2, m ≠ n ∧ m ≠ V_n u.1 ∧ m ≠ V_n v.1) ∧ ∀ m ∈ R', m ≠ n ∧ m ≠ V_n u.1 ∧ m ≠ V_n v.1) ∧ ((∀ m ∈ V_nk (h + 1) A, m ∈ ns) ∧ (∀ m ∈ V_ns h (V_n u.1) u.2, m ∈ ns) ∧ (∀ m ∈ V_ns h (V_n v.1) v.2, m ∈ ns) ∧ (∀ m ∈ V_nk (h + 1) B, m ∈ ns) ∧ n ∈ ns ∧ ∀ m ∈ R', m ∈ ns) := by
  have hnd := (hpn.nodup_iff).mp ha.2.1.nd
  obtain ⟨nd1, nd2, nd3⟩ := List.nodup_append.mp hnd
  rw [V_ns_e] at nd1
  obtain ⟨nd4, nd5⟩ := List.nodup_cons.mp nd1
  rw [V_nk_app, V_nk_c, V_nk_c] at nd4 nd5
  obtain ⟨nd6, nd7, nd8⟩ := List.nodup_append.mp nd5
  obtain ⟨nd9, nd10, nd11⟩ := List.nodup_append.mp nd7
  obtain ⟨nd12, nd13, nd14⟩ := List.nodup_append.mp nd10
  have mem : ∀ m, m ∈ n :: (V_nk (h + 1) A ++ (V_ns h (V_n u.1) u.2 ++ (V_ns h (V_n v.1) v.2 ++ V_nk (h + 1) B))) → m ∈ ns := fun m hm => hpn.mem_iff.mpr (List.mem_append_left _ (by rw [V_ns_e, V_nk_app, V_nk_c, V_nk_c]; exact hm))
  have hnlm : V_n u.1 ∈ V_ns h (V_n u.1) u.2 := V_ns_m h _ _
  have hnrm : V_n v.1 ∈ V_ns h (V_n v.1) v.2 := V_ns_m h _ _
  have nd4' : ∀ k ∈ V_nk (h + 1) A ++ (V_ns h (V_n u.1) u.2 ++ (V_ns h (V_n v.1) v.2 ++ V_nk (h + 1) B)), k ≠ n := fun k hk z => nd4 (z ▸ hk)
  have u_v : V_n u.1 ≠ V_n v.1 := nd11 _ hnlm _ (List.mem_append_left _ hnrm)
  refine ⟨⟨(nd4' _ (List.mem_append_right _ (List.mem_append_left _ hnlm))).symm, (nd4' _ (List.mem_append_right _ (List.mem_append_right _ (List.mem_append_left _ hnrm)))).symm, u_v⟩, ⟨fun m hm => ⟨fun z => nd4 (z ▸ List.mem_append_left _ hm), nd8 m hm _ (List.mem_append_left _ hnlm), nd8 m hm _ (List.mem_append_right _ (List.mem_append_left _ hnrm))⟩, fun m hm => ⟨fun z => nd4 (z ▸ List.mem_append_right _ (List.mem_append_right _ (List.mem_append_right _ hm))), fun z => nd11 _ hnlm m (List.mem_append_right _ hm) z.symm, fun z => nd14 _ hnrm m hm z.symm⟩, fun m hm => ?_, fun m hm => ?_, fun m hm => ?_⟩, fun m hm => mem m (List.mem_cons_of_mem _ (List.mem_append_left _ hm)), fun m hm => mem m (List.mem_cons_of_mem _ (List.mem_append_right _ (List.mem_append_left _ hm))), fun m hm => mem m (List.mem_cons_of_mem _ (List.mem_append_right _ (List.mem_append_right _ (List.mem_append_left _ hm)))), fun m hm => mem m (List.mem_cons_of_mem _ (List.mem_append_right _ (List.mem_append_right _ (List.mem_append_right _ hm)))), mem n List.mem_cons_self, fun m hm => hpn.mem_iff.mpr (List.mem_append_right _ hm)⟩
  · have hm2 : m ∈ V_ns h (V_n u.1) u.2 := by rw [V_ns_e]; exact List.mem_cons_of_mem _ hm
    rw [V_ns_e] at nd9
    exact ⟨fun z => nd4 (z ▸ List.mem_append_right _ (List.mem_append_left _ hm2)), fun z => (List.nodup_cons.mp nd9).1 (z ▸ hm), nd11 m hm2 _ (List.mem_append_left _ hnrm)⟩
  · have hm2 : m ∈ V_ns h (V_n v.1) v.2 := by rw [V_ns_e]; exact List.mem_cons_of_mem _ hm
    rw [V_ns_e] at nd12
    exact ⟨fun z => nd4 (z ▸ List.mem_append_right _ (List.mem_append_right _ (List.mem_append_left _ hm2))), fun z => nd11 _ hnlm m (List.mem_append_left _ hm2) z.symm, fun z => (List.nodup_cons.mp nd12).1 (z ▸ hm)⟩
  · have h9 : ∀ k, k ∈ V_ns (h + 1) n (A ++ u :: v :: B) → m ≠ k := fun k hk z => nd3 k hk m hm z.symm
    rw [V_ns_e, V_nk_app, V_nk_c, V_nk_c] at h9
    exact ⟨h9 n List.mem_cons_self, h9 _ (List.mem_cons_of_mem _ (List.mem_append_right _ (List.mem_append_left _ hnlm))), h9 _ (List.mem_cons_of_mem _ (List.mem_append_right _ (List.mem_append_right _ (List.mem_append_left _ hnrm))))⟩
theorem c_takeFirst {Q : g_M → Prop} {h n : Nat} {A B : List (N_i V_W (h + 1))} {u v : N_i V_W (h + 1)} {y r1 : N_i V_W h} {r : List (N_i V_W h)} {S : B_S} {M : g_M} (hB : B_t t S M) (ha : B_all S j i FS us FN ns w1 w2) (hD : C_D S (h + 1) n (A ++ u :: v :: B)) (hv2 : v.2 = y :: r1 :: r) (hun : u.2 ≠ []) (hu7 : u.2.length ≤ 7) (hl8 : (A ++ u :: v :: B).length ≤ 8) (hpu : us.Perm (V_us (h + 1) (A ++ u :: v :: B) ++ R)) (hpn : ns.Perm (V_ns (h + 1) n (A ++ u :: v :: B) ++ R')) (hu : us.length < 1370) (hq : ∀ (ms j1 : Nat) (FS1 us1 : List Nat) (S1 : B_S) (M1 : g_M), B_t t S1 M1 → B_Fc t j i j1 i M M1 → B_ag (V_A R' R) V_G4 S S1 → B_all S1 j1 i FS1 us1 FN ns w1 w2 → us1.Perm (V_us (h + 1) (A ++ (N_mk h u.1 (u.2 ++ V_hd h v.1 [y]) :: [N_mk h ((ms, V_n v.1), V_e (N_f h r1)) (r1 :: r)] ++ B)) ++ R) → ns.Perm (V_ns (h + 1) n (A ++ (N_mk h u.1 (u.2 ++ V_hd h v.1 [y]) :: [N_mk h ((ms, V_n v.1), V_e (N_f h r1)) (r1 :: r)] ++ B)) ++ R') → C_D S1 (h + 1) n (A ++ (N_mk h u.1 (u.2 ++ V_hd h v.1 [y]) :: [N_mk h ((ms, V_n v.1), V_e (N_f h r1)) (r1 :: r)] ++ B)) → S1.2.2 17 = S.2.2 17 → S1.2.2 16 = S.2.2 16 → us1.length ≤ us.length → Q M1) : g_Call (d + 4) 190 [.ref t, g_n (V_n u.1), g_n (V_n v.1), g_n ((n : Int) * 9 + A.length)] M (g_qV Q) := by
  obtain ⟨d1, d2, d3, d4⟩ := C_D_s.mp hD
  have hum : u ∈ A ++ u :: v :: B := List.mem_append_right _ List.mem_cons_self
  have hvm : v ∈ A ++ u :: v :: B := List.mem_append_right _ (List.mem_cons_of_mem _ List.mem_cons_self)
  have hvt : v ∈ (A ++ u :: v :: B).tail := by
    cases A with
    | nil => exact List.mem_cons_self
    | cons a A => exact List.mem_append_right _ (List.mem_cons_of_mem _ List.mem_cons_self)
  have Du := d4 u hum
  have Dv := d4 v hvm
  rw [List.length_append, List.length_cons, List.length_cons] at hl8
  obtain ⟨⟨n_u, n_v, u_v⟩, ⟨oA, oB, ou, ov, oR⟩, iA, iu, iv, iB, inn, iR⟩ := V_nbF ha hpn
  have hnlm : V_n u.1 ∈ V_ns h (V_n u.1) u.2 := V_ns_m h _ _
  have hnrm : V_n v.1 ∈ V_ns h (V_n v.1) v.2 := V_ns_m h _ _
  have hnlt := ha.2.1.lt inn
  have hnllt := ha.2.1.lt (iu _ hnlm)
  have hnrlt := ha.2.1.lt (iv _ hnrm)
  obtain ⟨l4, l5, l6, l7, lN⟩ := id ha.ln
  have iuu : ∀ s ∈ V_us h u.2, s ∈ us := fun s hs => hpu.mem_iff.mpr (List.mem_append_left _ (List.mem_append_right _ (List.mem_flatMap.mpr ⟨u, hum, hs⟩)))
  have ivu : ∀ s ∈ V_us h v.2, s ∈ us := fun s hs => hpu.mem_iff.mpr (List.mem_append_left _ (List.mem_append_right _ (List.mem_flatMap.mpr ⟨v, hvm, hs⟩)))
  have hym : y ∈ v.2 := by rw [hv2]; exact List.mem_cons_self
  have hr1m : r1 ∈ v.2 := by rw [hv2]; exact List.mem_cons_of_mem _ List.mem_cons_self
  have hr1t : r1 ∈ v.2.tail := by rw [hv2]; exact List.mem_cons_self
  have hUs := ha.uu
  have hky : V_k h y < 10000 := V_k_lt (S := S) (n := 0) (ns := ns) (us := us) lN hUs.2.2 (fun m hm => ha.2.1.lt (iv m (by rw [V_ns_e]; exact List.mem_cons_of_mem _ hm))) (fun s hs => ha.1.lt (ivu s hs)) hym
  obtain ⟨nou, lu⟩ := Du.no
  obtain ⟨nov, lv⟩ := Dv.no
  have hul := List.length_pos_iff.mpr hun
  have hvl : v.2.length = r.length + 2 := by rw [hv2]; rfl
  have hvk : v.2.map (V_k h) = [] ++ V_k h y :: ((r1 :: r).map (V_k h)) := by rw [hv2]; rfl
  rw [hvk] at nov
  obtain ⟨kd, k1, k2, k3⟩ := hB.at (k := 4) (by decide)
  have k2 : g_A M kd 1 (S.1 4) := k2
  have hkv : g_i M kd ((V_n v.1 : Int) * 9) = V_k h y := by
    rw [k3 _ (by omega) (by omega)]
    have := nov.2.2.1 0 (V_k h y) rfl
    exact (congrArg (S.2.1 4) (by omega)).trans this
  refine m_X10_takeFirst ⟨by omega, by omega⟩ ⟨by omega, by omega⟩ ⟨by omega, by omega⟩ fun _ => ⟨hB.1, kd, k1, ⟨by omega, by omega⟩, S.1 4, k2, ⟨by omega, by omega⟩, ?_⟩
  rw [hkv]
  refine c_removeKid (d := d + 2) (N := B_cn i) (A := []) hB ha.ln hnrlt nov (by rw [List.nil_append, List.length_cons, List.length_map, List.length_cons]; omega) (by have := V_m_len h v.2; omega) fun S1 M1 t1 f1 g1 e1 no1 => ?_
  intro _ _
  rw [List.nil_append] at no1
  have a1 := ha.ag g1 e1 (fun q z => by rcases z with ⟨z, -⟩ | ⟨z, -⟩ <;> omega) (fun q z => by rcases z with ⟨z, -⟩ | ⟨z, -⟩ <;> omega) (fun z => z) (fun z => z) (fun z => z) fun z => z
  have nou1 := nou.ag ha.ln hnllt (by rw [List.length_map]; exact lu) (by have := V_m_len h u.2; omega) g1 (B_kA_nav u_v).1 (B_kA_nav u_v).2.1 (B_kA_nav u_v).2.2
  obtain ⟨cn, c1, c2, c3⟩ := t1.at (k := 6) (by decide)
  have c2 : g_A M1 cn 1 (S1.1 6) := c2
  obtain ⟨ml4, ml5, ml6, ml7, mlN⟩ := id a1.ln
  have hcv : g_i M1 cn (V_n u.1) = (u.2.map (V_k h)).length := by rw [c3 _ (by omega) (by omega)]; exact nou1.2.1
  refine ⟨cn, c1, S1.1 6, c2, ⟨by omega, by omega⟩, ?_⟩
  rw [hcv]
  have nou1' : B_no S1 (V_n u.1) (V_f h) (u.2.map (V_k h) ++ []) (V_m h u.2) := by rw [List.append_nil]; exact nou1
  refine c_insertKid (d := d + 2) (N := B_cn i) (A := u.2.map (V_k h)) (B := []) (k := V_k h y) t1 a1.ln hnllt nou1' (by rw [List.append_nil, List.length_map]; omega) hky (by have := V_m_len h u.2; omega) fun S2 M2 t2 f2 g2 e2 no2 => ?_
  intro _ _
  have a2 := a1.ag g2 e2 (fun q z => by rcases z with ⟨z, -⟩ | ⟨z, -⟩ <;> omega) (fun q z => by rcases z with ⟨z, -⟩ | ⟨z, -⟩ <;> omega) (fun z => z) (fun z => z) (fun z => z) fun z => z
  have hlr : ((r1 :: r).map (V_k h)).length = r.length + 1 := by rw [List.length_map, List.length_cons]
  have no1b := no1.ag a1.ln hnrlt (by omega) (by have := V_m_len h v.2; omega) g2 (B_kA_nav u_v.symm).1 (B_kA_nav u_v.symm).2.1 (B_kA_nav u_v.symm).2.2
  obtain ⟨lf, p1, p2, p3⟩ := t2.at (k := 7) (by decide)
  have p2 : g_A M2 lf 2 (S2.1 7) := p2
  obtain ⟨m4, m5, m6, m7, mN⟩ := id a2.ln
  have g02 : B_ag (fun k q => B_kA (V_n u.1) k q ∨ B_kA (V_n v.1) k q) B_0 S S2 := (g1.up (fun k q z => Or.inr z) fun k z => z).tr (g2.up (fun k q z => Or.inl z) fun k z => z)
  have nav02 : ∀ m, m ≠ V_n u.1 → m ≠ V_n v.1 → B_nav (fun k q => B_kA (V_n u.1) k q ∨ B_kA (V_n v.1) k q) m := fun m q1 q2 => by
    obtain ⟨b1, b2, b3⟩ := B_kA_nav q1
    obtain ⟨c1, c2, c3⟩ := B_kA_nav q2
    exact ⟨fun q q1 q2 => ⟨fun z => z.elim (b1 q q1 q2).1 (c1 q q1 q2).1, fun z => z.elim (b1 q q1 q2).2 (c1 q q1 q2).2⟩, fun z => z.elim b2 c2, fun z => z.elim b3 c3⟩
  have sav02 : ∀ s, B_sav (fun k q => B_kA (V_n u.1) k q ∨ B_kA (V_n v.1) k q) s := fun s => by
    obtain ⟨b1, b2⟩ := B_kA_sav (V_n u.1) s
    obtain ⟨c1, c2⟩ := B_kA_sav (V_n v.1) s
    exact ⟨fun q q1 q2 z => z.elim (b1 q q1 q2) (c1 q q1 q2), fun z => z.elim b2 c2⟩
  have nop := d1.ag ha.ln hnlt (by rw [List.length_map]; exact d2) (by rw [V_ts_len]; omega) g02 (nav02 n n_u n_v).1 (nav02 n n_u n_v).2.1 (nav02 n n_u n_v).2.2
  obtain ⟨P, hP⟩ : ∃ P, P = V_ts h (A ++ [u]) := ⟨_, rfl⟩
  have hPl : P.length = A.length := by rw [hP, V_ts_len, List.length_append, List.length_singleton]; rfl
  have htsp : V_ts h (A ++ u :: v :: B) = P ++ V_s v.1 :: B.map fun z => V_s z.1 := by rw [V_ts_cut, ← hP]; rfl
  rw [htsp] at nop
  have hmkv : S2.2.1 5 ((n : Int) * 9 + A.length) = V_s v.1 := by
    have := nop.2.2.2 A.length (V_s v.1) (by
      unfold B_il
      rw [List.getElem?_map, List.getElem?_append_right (by omega), hPl, Nat.sub_self]
      rfl)
    exact (congrArg (S2.2.1 5) (by omega)).trans this
  have hvu : V_s v.1 ∈ V_us (h + 1) (A ++ u :: v :: B) := List.mem_append_left _ (List.mem_map.mpr ⟨v, hvt, rfl⟩)
  refine ⟨lf, p1, S2.1 7, p2, ⟨by omega, by omega⟩, ?_⟩
  rw [p3 _ (by omega) (by omega), no2.1]
  cases h with
  | zero =>
    refine ⟨fun z => absurd z (by decide), fun _ => ?_⟩
    obtain ⟨mk, q1, q2, q3⟩ := t2.at (k := 5) (by decide)
    have q2 : g_A M2 mk 1 (S2.1 5) := q2
    have hmv : g_i M2 mk ((n : Int) * 9 + A.length) = V_s v.1 := by
      rw [q3 _ (by omega) (by omega)]
      exact hmkv
    refine ⟨mk, q1, S2.1 5, q2, ⟨by omega, by omega⟩, ?_⟩
    rw [hmv]
    obtain ⟨u0, hu0⟩ : ∃ u0, u0 = P ++ (B.map fun z => V_s z.1) ++ V_uk 0 (A ++ u :: v :: B) ++ R := ⟨_, rfl⟩
    have hpu0 : us.Perm (V_s v.1 :: u0) := hpu.trans (List.perm_iff_count.mpr fun a => by
      rw [V_us_k, htsp, hu0]
      simp only [List.count_append, List.count_cons]
      omega)
    refine c_freeSlotA (d := d + 2) t2 a2 hpu0 fun S3 M3 t3 f3 g3 e3 a3 => ?_
    intro _ _
    obtain ⟨mk3, x1, -, -⟩ := t3.at (k := 5) (by decide)
    obtain ⟨kd3, k4, k5, k6⟩ := t3.at (k := 4) (by decide)
    have k5 : g_A M3 kd3 1 (S3.1 4) := k5
    have huk0 : ∀ s ∈ V_uk 0 (A ++ u :: v :: B), s ∈ u0 := fun s hs => by
      rw [hu0]
      exact List.mem_append_left _ (List.mem_append_right _ hs)
    have hus0 : ∀ s ∈ V_us 0 u.2, s ∈ u0 := fun s hs => huk0 s (List.mem_flatMap.mpr ⟨u, hum, hs⟩)
    have hvs0 : ∀ s ∈ V_us 0 v.2, s ∈ u0 := fun s hs => huk0 s (List.mem_flatMap.mpr ⟨v, hvm, hs⟩)
    have hyu : V_k 0 r1 ∈ V_us 0 v.2 := List.mem_map.mpr ⟨r1, hr1m, rfl⟩
    have hye : B_eg S (V_k 0 r1) (V_e r1) := Dv.2.2 r1 hr1m
    have hye3 : B_eg S3 (V_k 0 r1) (V_e r1) := (hye.ag ha.uu (ha.1.lt (ivu _ hyu)) g02 (sav02 _)).ag a2.uu (a2.1.lt (ivu _ hyu)) g3 (B_2_sav _)
    have hl0 := hpu0.length_eq
    rw [List.length_cons] at hl0
    have no3r := no1b.ag a2.ln hnrlt (by omega) (by have := V_m_len 0 v.2; omega) g3 (B_2_nav (V_n v.1)).1 (B_2_nav (V_n v.1)).2.1 (B_2_nav (V_n v.1)).2.2
    have hkv3 : g_i M3 kd3 ((V_n v.1 : Int) * 9) = V_k 0 r1 := by
      rw [k6 _ (by omega) (by rw [e3]; omega)]
      have := no3r.2.2.1 0 (V_k 0 r1) rfl
      exact (congrArg (S3.2.1 4) (by omega)).trans this
    refine ⟨mk3, x1, kd3, k4, ⟨by omega, by omega⟩, S3.1 4, k5, ⟨by omega, by rw [e3]; omega⟩, ?_⟩
    rw [hkv3]
    refine c_markLike (d := d) t3 a3 (by omega) (hvs0 _ hyu) hye3 fun ms j1 FS1 S4 M4 t4 f4 g4 a4 e4 hr4 => ?_
    intro _ _ _
    have r14 : g_r M4 t ((5 : Nat) : Int) = some mk3 := by rw [hr4 5 (by decide)]; exact x1
    have r24 := B_nfs (v := 0) t4 (k := 5) (by decide) r14
    have r24 : g_A M4 mk3 1 (S4.1 5) := r24
    obtain ⟨x4, x5, x6, x7, xN⟩ := id a4.ln
    refine ⟨S4.1 5, r24, ⟨by omega, by omega⟩, fun M5 e5 _ => ?_⟩
    obtain ⟨t5, f5⟩ := t4.set (k := 5) (by decide) r14 ((n : Int) * 9 + A.length) (ms : Int)
    rw [← e5] at t5 f5
    have hms : ms ∉ u0 := (List.nodup_cons.mp a4.1.nd).1
    have g5 : B_ag (B_mA n) B_0 S4 (B_set S4 5 ((n : Int) * 9 + A.length) ms) := B_ag.set _ _ _ _ _ _ ⟨rfl, by omega, by omega⟩
    have a5 := a4.ag g5 rfl (fun q z => by have := z.1; omega) (fun q z => by have := z.1; omega) (fun z => z) (fun z => z) (fun z => z) fun z => z
    have n5 := (((nop.ag a2.ln hnlt (by rw [List.length_map]; exact d2) (by rw [List.length_append, List.length_cons, hPl, List.length_map]; omega) g3 (B_2_nav n).1 (B_2_nav n).2.1 (B_2_nav n).2.2).ag a3.ln hnlt (by rw [List.length_map]; exact d2) (by rw [List.length_append, List.length_cons, hPl, List.length_map]; omega) g4 (B_lA_nav ms n).1 (B_lA_nav ms n).2.1 (B_lA_nav ms n).2.2)).setm (s2 := ms)
    rw [hPl] at n5
    obtain ⟨S5, hS5⟩ : ∃ S5, S5 = B_set S4 5 ((n : Int) * 9 + A.length) ms := ⟨_, rfl⟩
    rw [← hS5] at t5 g5 a5 n5
    have G : B_ag (fun k q => (B_kA (V_n u.1) k q ∨ B_kA (V_n v.1) k q) ∨ k = 2 ∨ B_lA ms k q ∨ B_mA n k q) (fun k => k = 3) S S5 := (((g02.up (fun k q z => Or.inl z) fun k z => z.elim).tr (g3.up (fun k q z => Or.inr (Or.inl z)) fun k z => z)).tr (g4.up (fun k q z => Or.inr (Or.inr (Or.inl z))) fun k z => z)).tr (g5.up (fun k q z => Or.inr (Or.inr (Or.inr z))) fun k z => z.elim)
    have nav : ∀ m, m ≠ n ∧ m ≠ V_n u.1 ∧ m ≠ V_n v.1 → B_nav (fun k q => (B_kA (V_n u.1) k q ∨ B_kA (V_n v.1) k q) ∨ k = 2 ∨ B_lA ms k q ∨ B_mA n k q) m := fun m hm => by
      obtain ⟨b1, b2, b3⟩ := nav02 m hm.2.1 hm.2.2
      obtain ⟨c1, c2, c3⟩ := B_lA_nav ms m
      obtain ⟨d1, d2, d3⟩ := B_mA_nav hm.1
      exact ⟨fun q q1 q2 => ⟨fun z => z.elim (b1 q q1 q2).1 fun z => z.elim (fun z => by omega) fun z => z.elim (c1 q q1 q2).1 (d1 q q1 q2).1, fun z => z.elim (b1 q q1 q2).2 fun z => z.elim (fun z => by omega) fun z => z.elim (c1 q q1 q2).2 (d1 q q1 q2).2⟩, fun z => z.elim b2 fun z => z.elim (fun z => by omega) fun z => z.elim c2 d2, fun z => z.elim b3 fun z => z.elim (fun z => by omega) fun z => z.elim c3 d3⟩
    have sav : ∀ s, s ∈ u0 → B_sav (fun k q => (B_kA (V_n u.1) k q ∨ B_kA (V_n v.1) k q) ∨ k = 2 ∨ B_lA ms k q ∨ B_mA n k q) s := fun s hs => by
      obtain ⟨b1, b2⟩ := sav02 s
      obtain ⟨c1, c2⟩ := B_lA_sav (s := ms) (s2 := s) fun z => hms (z ▸ hs)
      obtain ⟨d1, d2⟩ := B_mA_sav n s
      exact ⟨fun q q1 q2 z => z.elim (b1 q q1 q2) fun z => z.elim (fun z => by omega) fun z => z.elim (c1 q q1 q2) (d1 q q1 q2), fun z => z.elim b2 fun z => z.elim (fun z => by omega) fun z => z.elim c2 d2⟩
    have way : ∀ q : Int, ¬ ((B_kA (V_n u.1) 10 q ∨ B_kA (V_n v.1) 10 q) ∨ (10 : Nat) = 2 ∨ B_lA ms 10 q ∨ B_mA n 10 q) ∧ ¬ ((B_kA (V_n u.1) 11 q ∨ B_kA (V_n v.1) 11 q) ∨ (11 : Nat) = 2 ∨ B_lA ms 11 q ∨ B_mA n 11 q) := fun q => by
      constructor
      · rintro (((⟨z, -⟩ | ⟨z, -⟩) | (⟨z, -⟩ | ⟨z, -⟩)) | z | (z | ⟨z, -⟩ | ⟨z, -⟩) | ⟨z, -⟩) <;> omega
      · rintro (((⟨z, -⟩ | ⟨z, -⟩) | (⟨z, -⟩ | ⟨z, -⟩)) | z | (z | ⟨z, -⟩ | ⟨z, -⟩) | ⟨z, -⟩) <;> omega
    have uin : ∀ s ∈ u0, (s : Int) < B_cs j := fun s hs => ha.1.lt (hpu0.mem_iff.mpr (List.mem_cons_of_mem _ hs))
    have hlu2 : (u.2.map (V_k 0) ++ V_k 0 y :: []).length ≤ 9 := by rw [List.length_append, List.length_singleton, List.length_map]; omega
    have hlk : (u.2 ++ V_hd 0 v.1 [y]).map (V_k 0) = u.2.map (V_k 0) ++ V_k 0 y :: [] := by rw [List.map_append]; rfl
    have nl5 : B_no S5 (V_n u.1) (V_f 0) ((u.2 ++ V_hd 0 v.1 [y]).map (V_k 0)) (V_m 0 (u.2 ++ V_hd 0 v.1 [y])) := by
      rw [hlk]
      exact ((no2.ag a2.ln hnllt hlu2 (Nat.zero_le _) g3 (B_2_nav (V_n u.1)).1 (B_2_nav (V_n u.1)).2.1 (B_2_nav (V_n u.1)).2.2).ag a3.ln hnllt hlu2 (Nat.zero_le _) g4 (B_lA_nav ms (V_n u.1)).1 (B_lA_nav ms (V_n u.1)).2.1 (B_lA_nav ms (V_n u.1)).2.2).ag a4.ln (a4.2.1.lt (iu _ hnlm)) hlu2 (Nat.zero_le _) g5 (B_mA_nav n_u.symm).1 (B_mA_nav n_u.symm).2.1 (B_mA_nav n_u.symm).2.2
    have nr5 : B_no S5 (V_n v.1) (V_f 0) ((r1 :: r).map (V_k 0)) (V_m 0 (r1 :: r)) := (no3r.ag a3.ln hnrlt (by omega) (Nat.zero_le _) g4 (B_lA_nav ms (V_n v.1)).1 (B_lA_nav ms (V_n v.1)).2.1 (B_lA_nav ms (V_n v.1)).2.2).ag a4.ln (a4.2.1.lt (iv _ hnrm)) (by omega) (Nat.zero_le _) g5 (B_mA_nav n_v.symm).1 (B_mA_nav n_v.symm).2.1 (B_mA_nav n_v.symm).2.2
    obtain ⟨u', hu'⟩ : ∃ u', u' = N_mk 0 u.1 (u.2 ++ V_hd 0 v.1 [y]) := ⟨_, rfl⟩
    obtain ⟨v', hv'⟩ : ∃ v', v' = N_mk 0 ((ms, V_n v.1), V_e (N_f 0 r1)) (r1 :: r) := ⟨_, rfl⟩
    have eu1 : u'.1 = u.1 := by rw [hu']; rfl
    have eu2 : u'.2 = u.2 ++ V_hd 0 v.1 [y] := by rw [hu']; rfl
    have ev1 : v'.1 = ((ms, V_n v.1), V_e (N_f 0 r1)) := by rw [hv']; rfl
    have ev2 : v'.2 = r1 :: r := by rw [hv']; rfl
    have htsn : V_ts 0 (A ++ (u' :: [v'] ++ B)) = P ++ ([ms] ++ B.map fun z => V_s z.1) := by
      rw [V_ts_nb 0 A [v'] B (u := u) (y := u') (by rw [eu1]), ← hP, List.map_cons, ev1]
      rfl
    have hq2 := hq ms j1 FS1 (ms :: u0) S5 M5 t5 ((((f1.tr0 f2).tr0 f3).c j i).tr (f4.tr (f5.c j1 i))) (G.up (V_A.of (fun m hm => nav m (oR m hm)) (fun s hs => sav s (by rw [hu0]; exact List.mem_append_right _ hs)) way) fun k z => Or.inl z) a5
    rw [← hu', ← hv'] at hq2
    refine hq2 ?_ ?_ (hD.nb (N := B_cn i) (U := B_cs j) ha.ln ha.uu (fun m hm => ⟨ha.2.1.lt (hm.elim (iA m) (iB m)), nav m (hm.elim (oA m) (oB m))⟩) (fun s hs => ?_) G ?_ eu1 ?_ (fun z hz => ?_) fun z hz => ?_) ?_ ?_ (by rw [List.length_cons]; omega)
    · refine List.perm_iff_count.mpr fun a => ?_
      rw [V_us_k, htsn, hu0, V_uk_app, V_uk_app, V_uk_app, V_uk_c, V_uk_c, V_uk_c, V_uk_c, eu2, ev2, hv2, V_us_0, V_us_0, V_us_0, V_us_0, hlk]
      show _ = List.count a (P ++ ([ms] ++ B.map fun z => V_s z.1) ++ (V_uk 0 A ++ ((u.2.map (V_k 0) ++ [V_k 0 y]) ++ ((V_k 0 r1 :: r.map (V_k 0)) ++ []) ++ V_uk 0 B)) ++ R)
      rw [List.map_cons, List.map_cons]
      simp only [List.count_append, List.count_cons, List.count_nil]
      omega
    · refine hpn.trans (List.perm_iff_count.mpr fun a => ?_)
      rw [V_ns_e 1, V_ns_e 1, V_nk_app, V_nk_app, V_nk_app, V_nk_c, V_nk_c, V_nk_c, V_nk_c, eu1, ev1]
      show List.count a (n :: (V_nk 1 A ++ ([V_n u.1] ++ ([V_n v.1] ++ V_nk 1 B))) ++ R') = List.count a (n :: (V_nk 1 A ++ ([V_n u.1] ++ ([V_n v.1] ++ []) ++ V_nk 1 B)) ++ R')
      simp only [List.count_append, List.count_cons, List.count_nil]
      omega
    · have : s ∈ u0 := by
        rw [hu0]
        rw [← hP] at hs
        rcases hs with z | z | z | z
        · exact List.mem_append_left _ (List.mem_append_left _ (List.mem_append_left _ z))
        · exact List.mem_append_left _ (List.mem_append_left _ (List.mem_append_right _ z))
        · refine List.mem_append_left _ (List.mem_append_right _ ?_)
          rw [V_uk_app]
          exact List.mem_append_left _ z
        · refine List.mem_append_left _ (List.mem_append_right _ ?_)
          rw [V_uk_app, V_uk_c, V_uk_c]
          exact List.mem_append_right _ (List.mem_append_right _ (List.mem_append_right _ z))
      exact ⟨uin s this, sav s this⟩
    · rw [V_map_nb 0 A [v'] B u', htsn, eu1, List.map_cons, ev1]
      rw [List.map_append, List.map_cons, List.map_cons] at n5
      exact n5
    · rw [List.length_append, List.length_append, List.length_cons, List.length_cons, List.length_nil]
      omega
    · have : z = v' := List.mem_singleton.mp hz
      rw [this, ev1]
      exact e4.ag a4.uu (a4.1.lt List.mem_cons_self) g5 (B_mA_sav n ms)
    · rcases List.mem_cons.mp hz with w | w
      · rw [w, eu1, eu2]
        refine C_D_0.mpr ⟨nl5, ?_, fun x hx => ?_⟩
        · show (u.2 ++ [y]).length ≤ 9
          rw [List.length_append, List.length_singleton]
          omega
        · rcases List.mem_append.mp hx with g | g
          · have hxu : V_k 0 x ∈ V_us 0 u.2 := List.mem_map.mpr ⟨x, g, rfl⟩
            exact (Du.2.2 x g).ag ha.uu (uin _ (hus0 _ hxu)) G (sav _ (hus0 _ hxu))
          · have : x = y := List.mem_singleton.mp g
            rw [this]
            have hxu : V_k 0 y ∈ V_us 0 v.2 := List.mem_map.mpr ⟨y, hym, rfl⟩
            exact (Dv.2.2 y hym).ag ha.uu (uin _ (hvs0 _ hxu)) G (sav _ (hvs0 _ hxu))
      · have : z = v' := List.mem_singleton.mp w
        rw [this, ev1, ev2]
        exact Dv.re (l' := r1 :: r) ha.ln ha.uu (fun m hm => absurd hm (by simp [V_nk])) (fun s hs => uin s (hvs0 s hs)) G nr5 (by rw [List.length_cons]; omega) (fun x hx => by rw [hv2]; exact List.mem_cons_of_mem _ hx) (fun x hx => by
          rw [hv2]
          exact List.mem_cons_of_mem _ hx) (fun m hm => absurd hm (by simp [V_nk])) fun s hs => sav s (hvs0 s hs)
    · rw [G.2.2 17 (by decide)]
    · rw [G.2.2 16 (by decide)]
  | succ h =>
    refine ⟨fun _ => ?_, fun z => absurd rfl z⟩
    obtain ⟨g0, hg0⟩ : ∃ g0, g0 = N_mk h ((V_s v.1, V_n y.1), V_e v.1) y.2 := ⟨_, rfl⟩
    have g01 : g0.1 = ((V_s v.1, V_n y.1), V_e v.1) := by rw [hg0]; rfl
    have g02' : g0.2 = y.2 := by rw [hg0]; rfl
    have hhd : V_hd (h + 1) v.1 [y] = [g0] := by rw [hg0]; rfl
    obtain ⟨u', hu'⟩ : ∃ u', u' = N_mk (h + 1) u.1 (u.2 ++ V_hd (h + 1) v.1 [y]) := ⟨_, rfl⟩
    obtain ⟨v', hv'⟩ : ∃ v', v' = N_mk (h + 1) ((V_s r1.1, V_n v.1), V_e (N_f (h + 1) r1)) (r1 :: r) := ⟨_, rfl⟩
    have eu1 : u'.1 = u.1 := by rw [hu']; rfl
    have eu2 : u'.2 = u.2 ++ [g0] := by rw [hu', hhd]; rfl
    have ev1 : v'.1 = ((V_s r1.1, V_n v.1), V_e r1.1) := by rw [hv']; rfl
    have ev2 : v'.2 = r1 :: r := by rw [hv']; rfl
    have huts : V_ts h (u.2 ++ [g0]) = V_ts h u.2 ++ [V_s v.1] := by
      cases hu2 : u.2 with
      | nil => exact absurd hu2 hun
      | cons a U =>
        show (U ++ [g0]).map _ = U.map _ ++ [_]
        rw [List.map_append, List.map_cons, g01]
        rfl
    have hutl : (V_ts h u.2).length = u.2.length - 1 := V_ts_len h u.2
    have hvts : V_ts h v.2 = V_s r1.1 :: r.map fun z => V_s z.1 := by rw [hv2]; rfl
    have hvts' : V_ts h (r1 :: r) = r.map fun z => V_s z.1 := rfl
    obtain ⟨mk, q1, q2, q3⟩ := t2.at (k := 5) (by decide)
    have q2 : g_A M2 mk 1 (S2.1 5) := q2
    obtain ⟨cn2, s1, s2, s3⟩ := t2.at (k := 6) (by decide)
    have s2 : g_A M2 cn2 1 (S2.1 6) := s2
    have hcv2 : g_i M2 cn2 (V_n u.1) = (u.2.length + 1 : Nat) := by
      rw [s3 _ (by omega) (by omega), no2.2.1, List.length_append, List.length_singleton, List.length_map]
    refine ⟨mk, q1, ⟨by omega, by omega⟩, cn2, s1, S2.1 6, s2, ⟨by omega, by omega⟩, ?_⟩
    rw [hcv2]
    have hmv : g_i M2 mk ((n : Int) * 9 + A.length) = V_s v.1 := by
      rw [q3 _ (by omega) (by omega)]
      exact hmkv
    refine ⟨⟨by omega, by omega⟩, ⟨by omega, by omega⟩, mk, q1, S2.1 5, q2, ⟨by omega, by omega⟩, S2.1 5, q2, ⟨by omega, by omega⟩, ?_⟩
    rw [hmv]
    intro M42 e42 _
    obtain ⟨t3, f3⟩ := t2.set (k := 5) (by decide) q1 ((V_n u.1 : Int) * 9 + ((u.2.length + 1 : Nat) : Int) - 2) (V_s v.1 : Int)
    rw [← e42] at t3 f3
    obtain ⟨mk3, x1, x2, x3⟩ := t3.at (k := 5) (by decide)
    have x2 : g_A M42 mk3 1 (S2.1 5) := x2
    have hrm : S2.2.1 5 ((V_n v.1 : Int) * 9) = V_s r1.1 := by
      have h8 := no1b.2.2.2
      rw [show V_m (h + 1) v.2 = V_ts h v.2 from rfl, hvts] at h8
      have := h8 0 (V_s r1.1) rfl
      exact (congrArg (S2.2.1 5) (by omega)).trans this
    have hv4 : g_i M42 mk3 ((V_n v.1 : Int) * 9) = V_s r1.1 := by
      rw [x3 _ (by omega) (by show _ < S2.1 5; omega), B_set_v, if_neg (by omega)]
      exact hrm
    refine ⟨mk3, x1, mk3, x1, ⟨by omega, by omega⟩, S2.1 5, x2, ⟨by omega, by omega⟩, S2.1 5, x2, ⟨by omega, by omega⟩, ?_⟩
    rw [hv4]
    intro M57 e57 _
    obtain ⟨t4, f4⟩ := t3.set (k := 5) (by decide) x1 ((n : Int) * 9 + A.length) (V_s r1.1 : Int)
    rw [← e57] at t4 f4
    obtain ⟨mk4, y1, y2, y3⟩ := t4.at (k := 5) (by decide)
    have y2 : g_A M57 mk4 1 (S2.1 5) := y2
    obtain ⟨cn4, z1, z2, z3⟩ := t4.at (k := 6) (by decide)
    have z2 : g_A M57 cn4 1 (S2.1 6) := z2
    have hcv4 : g_i M57 cn4 (V_n v.1) = (r.length + 1 : Nat) := by
      rw [z3 _ (by omega) (by show _ < S2.1 6; omega), B_set_v, if_neg (by omega), B_set_v, if_neg (by omega), no1b.2.1, hlr]
    refine ⟨mk4, y1, ⟨by omega, by omega⟩, ⟨by omega, by omega⟩, mk4, y1, ⟨by omega, by omega⟩, cn4, z1, S2.1 6, z2, ⟨by omega, by omega⟩, ?_⟩
    rw [hcv4]
    refine ⟨⟨by omega, by omega⟩, S2.1 5, y2, S2.1 5, y2, ⟨by omega, by omega, by omega, by omega, by omega⟩, fun M79 e79 _ => ?_⟩
    obtain ⟨t5, f5⟩ := t4.cpy (k := 5) (k1 := 5) (sp := (V_n v.1 : Int) * 9 + 1) (dp := (V_n v.1 : Int) * 9) (n := ((r.length + 1 : Nat) : Int) - 1) (by decide) (by decide) y1 y1 (by omega) (by show _ ≤ S2.1 5; omega)
    rw [← e79] at t5 f5
    obtain ⟨S4, hS4⟩ : ∃ S4, S4 = B_set (B_set S2 5 ((V_n u.1 : Int) * 9 + ((u.2.length + 1 : Nat) : Int) - 2) (V_s v.1)) 5 ((n : Int) * 9 + A.length) (V_s r1.1) := ⟨_, rfl⟩
    rw [← hS4] at t5
    obtain ⟨S5, hS5⟩ : ∃ S5, S5 = B_cp S4 5 5 ((V_n v.1 : Int) * 9 + 1) ((V_n v.1 : Int) * 9) (((r.length + 1 : Nat) : Int) - 1) := ⟨_, rfl⟩
    rw [← hS5] at t5
    have hv40 : ∀ (k2 : Nat) (q : Int), S4.2.1 k2 q = if k2 = 5 ∧ q = (n : Int) * 9 + A.length then (V_s r1.1 : Int) else if k2 = 5 ∧ q = (V_n u.1 : Int) * 9 + ((u.2.length + 1 : Nat) : Int) - 2 then (V_s v.1 : Int) else S2.2.1 k2 q := fun k2 q => by
      rw [hS4, B_set_v, B_set_v]
    have hv : ∀ (k2 : Nat) (q : Int), S5.2.1 k2 q = if k2 = 5 ∧ (V_n v.1 : Int) * 9 ≤ q ∧ q < (V_n v.1 : Int) * 9 + (((r.length + 1 : Nat) : Int) - 1) then S2.2.1 5 ((V_n v.1 : Int) * 9 + 1 + (q - (V_n v.1 : Int) * 9)) else if k2 = 5 ∧ q = (n : Int) * 9 + A.length then (V_s r1.1 : Int) else if k2 = 5 ∧ q = (V_n u.1 : Int) * 9 + ((u.2.length + 1 : Nat) : Int) - 2 then (V_s v.1 : Int) else S2.2.1 k2 q := fun k2 q => by
      rw [hS5, B_cp_v]
      by_cases g : k2 = 5 ∧ (V_n v.1 : Int) * 9 ≤ q ∧ q < (V_n v.1 : Int) * 9 + (((r.length + 1 : Nat) : Int) - 1)
      · rw [if_pos g, if_pos g, hv40, if_neg (by omega), if_neg (by omega)]
      · rw [if_neg g, if_neg g, hv40]
    have g5 : B_ag (fun k q => B_mA (V_n u.1) k q ∨ B_mA (V_n v.1) k q ∨ B_mA n k q) B_0 S2 S5 := ⟨fun k2 => by rw [hS5, hS4]; exact Int.le_refl _, fun k2 q hA _ _ => by
      rw [hv, if_neg fun z => hA (Or.inr (Or.inl ⟨z.1, by omega, by omega⟩)), if_neg fun z => hA (Or.inr (Or.inr ⟨z.1, by omega, by omega⟩)), if_neg fun z => hA (Or.inl ⟨z.1, by omega, by omega⟩)], fun k2 _ => by rw [hS5, hS4]; rfl⟩
    have a5 : B_all S5 j i FS us FN ns w1 w2 := a2.ag g5 (by rw [hS5, hS4]; rfl) (fun q z => by rcases z with ⟨z, -⟩ | ⟨z, -⟩ | ⟨z, -⟩ <;> omega) (fun q z => by rcases z with ⟨z, -⟩ | ⟨z, -⟩ | ⟨z, -⟩ <;> omega) (fun z => z) (fun z => z) (fun z => z) fun z => z
    have G : B_ag (fun k q => (B_kA (V_n u.1) k q ∨ B_kA (V_n v.1) k q) ∨ B_mA (V_n u.1) k q ∨ B_mA (V_n v.1) k q ∨ B_mA n k q) B_0 S S5 := (g02.up (fun k q z => Or.inl z) fun k z => z).tr (g5.up (fun k q z => Or.inr z) fun k z => z)
    have nav : ∀ m, m ≠ n ∧ m ≠ V_n u.1 ∧ m ≠ V_n v.1 → B_nav (fun k q => (B_kA (V_n u.1) k q ∨ B_kA (V_n v.1) k q) ∨ B_mA (V_n u.1) k q ∨ B_mA (V_n v.1) k q ∨ B_mA n k q) m := fun m hm => by
      obtain ⟨b1, b2, b3⟩ := nav02 m hm.2.1 hm.2.2
      obtain ⟨a1, a2, a3⟩ := B_mA_nav hm.2.1
      obtain ⟨c1, c2, c3⟩ := B_mA_nav hm.2.2
      obtain ⟨d1, d2, d3⟩ := B_mA_nav hm.1
      exact ⟨fun q q1 q2 => ⟨fun z => z.elim (b1 q q1 q2).1 fun z => z.elim (a1 q q1 q2).1 fun z => z.elim (c1 q q1 q2).1 (d1 q q1 q2).1, fun z => z.elim (b1 q q1 q2).2 fun z => z.elim (a1 q q1 q2).2 fun z => z.elim (c1 q q1 q2).2 (d1 q q1 q2).2⟩, fun z => z.elim b2 fun z => z.elim a2 fun z => z.elim c2 d2, fun z => z.elim b3 fun z => z.elim a3 fun z => z.elim c3 d3⟩
    have sav : ∀ s, B_sav (fun k q => (B_kA (V_n u.1) k q ∨ B_kA (V_n v.1) k q) ∨ B_mA (V_n u.1) k q ∨ B_mA (V_n v.1) k q ∨ B_mA n k q) s := fun s => by
      obtain ⟨b1, b2⟩ := sav02 s
      obtain ⟨a1, a2⟩ := B_mA_sav (V_n u.1) s
      obtain ⟨c1, c2⟩ := B_mA_sav (V_n v.1) s
      obtain ⟨d1, d2⟩ := B_mA_sav n s
      exact ⟨fun q q1 q2 z => z.elim (b1 q q1 q2) fun z => z.elim (a1 q q1 q2) fun z => z.elim (c1 q q1 q2) (d1 q q1 q2), fun z => z.elim b2 fun z => z.elim a2 fun z => z.elim c2 d2⟩
    have way : ∀ q : Int, ¬ ((B_kA (V_n u.1) 10 q ∨ B_kA (V_n v.1) 10 q) ∨ B_mA (V_n u.1) 10 q ∨ B_mA (V_n v.1) 10 q ∨ B_mA n 10 q) ∧ ¬ ((B_kA (V_n u.1) 11 q ∨ B_kA (V_n v.1) 11 q) ∨ B_mA (V_n u.1) 11 q ∨ B_mA (V_n v.1) 11 q ∨ B_mA n 11 q) := fun q => by
      constructor
      · rintro (((⟨z, -⟩ | ⟨z, -⟩) | (⟨z, -⟩ | ⟨z, -⟩)) | ⟨z, -⟩ | ⟨z, -⟩ | ⟨z, -⟩) <;> omega
      · rintro (((⟨z, -⟩ | ⟨z, -⟩) | (⟨z, -⟩ | ⟨z, -⟩)) | ⟨z, -⟩ | ⟨z, -⟩ | ⟨z, -⟩) <;> omega
    have n5 : B_no S5 n 0 ((A ++ u :: v :: B).map (V_k (h + 2))) (P ++ V_s r1.1 :: B.map fun z => V_s z.1) := by
      obtain ⟨b1, b2, b3, b4⟩ := nop
      refine ⟨?_, ?_, b_at_keep b3 fun q _ _ => ?_, ?_⟩
      · rw [hv, if_neg (by omega), if_neg (by omega), if_neg (by omega)]
        exact b1
      · rw [hv, if_neg (by omega), if_neg (by omega), if_neg (by omega)]
        exact b2
      · rw [hv, if_neg (by omega), if_neg (by omega), if_neg (by omega)]
      · rw [B_il_app, B_il_c] at b4 ⊢
        obtain ⟨y1, y2⟩ := b_app.mp b4
        obtain ⟨y3, y4⟩ := b_cons.mp y2
        rw [B_il_len, hPl] at y4
        refine b_app.mpr ⟨b_at_keep y1 fun q q1 q2 => ?_, b_cons.mpr ⟨?_, ?_⟩⟩
        · rw [B_il_len, hPl] at q2
          rw [hv, if_neg (by omega), if_neg (by omega), if_neg (by omega)]
        · rw [B_il_len, hPl, hv, if_neg (by omega), if_pos ⟨rfl, by omega⟩]
        · rw [B_il_len, hPl]
          refine b_at_keep y4 fun q q1 q2 => ?_
          rw [B_il_len, List.length_map] at q2
          rw [hv, if_neg (by omega), if_neg (by omega), if_neg (by omega)]
    have nl5 : B_no S5 (V_n u.1) (V_f (h + 1)) ((u.2 ++ [g0]).map (V_k (h + 1))) (V_m (h + 1) (u.2 ++ [g0])) := by
      obtain ⟨b1, b2, b3, b4⟩ := no2
      have hmm : (u.2 ++ [g0]).map (V_k (h + 1)) = u.2.map (V_k (h + 1)) ++ V_k (h + 1) y :: [] := by
        rw [List.map_append]
        show _ ++ [V_n g0.1] = _
        rw [g01]
        rfl
      rw [hmm, show V_m (h + 1) (u.2 ++ [g0]) = V_ts h (u.2 ++ [g0]) from rfl, huts]
      refine ⟨?_, ?_, b_at_keep b3 fun q _ _ => ?_, ?_⟩
      · rw [hv, if_neg (by omega), if_neg (by omega), if_neg (by omega)]
        exact b1
      · rw [hv, if_neg (by omega), if_neg (by omega), if_neg (by omega)]
        exact b2
      · rw [hv, if_neg (by omega), if_neg (by omega), if_neg (by omega)]
      · rw [show V_m (h + 1) u.2 = V_ts h u.2 from rfl] at b4
        rw [B_il_app]
        refine b_app.mpr ⟨b_at_keep b4 fun q q1 q2 => ?_, b_cons.mpr ⟨?_, b_nil _ _⟩⟩
        · rw [B_il_len, hutl] at q2
          rw [hv, if_neg (by omega), if_neg (by omega), if_neg (by omega)]
        · rw [B_il_len, hutl, hv, if_neg (by omega), if_neg (by omega), if_pos ⟨rfl, by omega⟩]
    have nr5 : B_no S5 (V_n v.1) (V_f (h + 1)) ((r1 :: r).map (V_k (h + 1))) (V_m (h + 1) (r1 :: r)) := by
      obtain ⟨b1, b2, b3, b4⟩ := no1b
      refine ⟨?_, ?_, b_at_keep b3 fun q _ _ => ?_, ?_⟩
      · rw [hv, if_neg (by omega), if_neg (by omega), if_neg (by omega)]
        exact b1
      · rw [hv, if_neg (by omega), if_neg (by omega), if_neg (by omega)]
        exact b2
      · rw [hv, if_neg (by omega), if_neg (by omega), if_neg (by omega)]
      · rw [show V_m (h + 1) v.2 = V_ts h v.2 from rfl, hvts, B_il_c] at b4
        obtain ⟨-, b4⟩ := b_cons.mp b4
        intro q w hq2
        have := (List.getElem?_eq_some_iff.mp hq2).1
        rw [show V_m (h + 1) (r1 :: r) = r.map fun z => V_s z.1 from rfl, B_il_len, List.length_map] at this
        rw [hv, if_pos ⟨rfl, by omega, by omega⟩]
        exact (congrArg (S2.2.1 5) (by omega)).trans (b4 q w hq2)
    have htsn : V_ts (h + 1) (A ++ (u' :: [v'] ++ B)) = P ++ ([V_s r1.1] ++ B.map fun z => V_s z.1) := by
      rw [V_ts_nb (h + 1) A [v'] B (u := u) (y := u') (by rw [eu1]), ← hP, List.map_cons, ev1]
      rfl
    have hq2 := hq (V_s r1.1) j FS us S5 M79 t5 ((((((f1.tr0 f2).tr0 f3).tr0 f4).tr0 f5)).c j i) (G.up (V_A.of (fun m hm => nav m (oR m hm)) (fun s hs => sav s) way) fun k z => z.elim) a5
    rw [← hu', ← hv'] at hq2
    have uin : ∀ s ∈ V_us (h + 2) (A ++ u :: v :: B), (s : Int) < B_cs j := fun s hs => ha.1.lt (hpu.mem_iff.mpr (List.mem_append_left _ hs))
    refine hq2 ?_ ?_ (hD.nb (N := B_cn i) (U := B_cs j) ha.ln ha.uu (fun m hm => ⟨ha.2.1.lt (hm.elim (iA m) (iB m)), nav m (hm.elim (oA m) (oB m))⟩) (fun s hs => ⟨uin s ?_, sav s⟩) G ?_ eu1 ?_ (fun z hz => ?_) fun z hz => ?_) (by rw [G.2.2 17 fun z => z]) (by rw [G.2.2 16 fun z => z]) (Nat.le_refl _)
    · refine hpu.trans (List.perm_iff_count.mpr fun a => ?_)
      rw [V_us_k, V_us_k, htsp, htsn, V_uk_app, V_uk_app, V_uk_app, V_uk_c, V_uk_c, V_uk_c, V_uk_c, eu2, ev2, V_us_k h u.2, V_us_k h v.2, V_us_k h (u.2 ++ [g0]), V_us_k h (r1 :: r), huts, hvts, hv2, V_uk_app, V_uk_c, V_uk_c, V_uk_c, g02']
      show List.count a (P ++ V_s v.1 :: (B.map fun z => V_s z.1) ++ (V_uk (h + 1) A ++ (V_ts h u.2 ++ V_uk h u.2 ++ (V_s r1.1 :: (r.map fun z => V_s z.1) ++ (V_us h y.2 ++ (V_us h r1.2 ++ V_uk h r)) ++ V_uk (h + 1) B))) ++ R) = List.count a (P ++ ([V_s r1.1] ++ B.map fun z => V_s z.1) ++ (V_uk (h + 1) A ++ (V_ts h u.2 ++ [V_s v.1] ++ (V_uk h u.2 ++ (V_us h y.2 ++ [])) ++ (((r.map fun z => V_s z.1) ++ (V_us h r1.2 ++ V_uk h r)) ++ []) ++ V_uk (h + 1) B)) ++ R)
      simp only [List.count_append, List.count_cons, List.count_nil]
      omega
    · refine hpn.trans (List.perm_iff_count.mpr fun a => ?_)
      rw [V_ns_e (h + 2), V_ns_e (h + 2), V_nk_app, V_nk_app, V_nk_app, V_nk_c, V_nk_c, V_nk_c, V_nk_c, eu1, eu2, ev1, ev2, V_ns_e (h + 1), V_ns_e (h + 1), V_ns_e (h + 1), V_ns_e (h + 1), V_nk_a, hv2, V_nk_c, V_nk_c, V_nk_c, g01, g02']
      show List.count a (n :: (V_nk (h + 2) A ++ (V_n u.1 :: V_nk (h + 1) u.2 ++ (V_n v.1 :: (V_ns h (V_n y.1) y.2 ++ (V_ns h (V_n r1.1) r1.2 ++ V_nk (h + 1) r)) ++ V_nk (h + 2) B))) ++ R') = List.count a (n :: (V_nk (h + 2) A ++ (V_n u.1 :: (V_nk (h + 1) u.2 ++ (V_ns h (V_n y.1) y.2 ++ [])) ++ ((V_n v.1 :: (V_ns h (V_n r1.1) r1.2 ++ V_nk (h + 1) r)) ++ []) ++ V_nk (h + 2) B)) ++ R')
      simp only [List.count_append, List.count_cons, List.count_nil]
      omega
    · rw [V_us_k, htsp, V_uk_app, V_uk_c, V_uk_c, ← hP] at *
      rcases hs with z | z | z | z
      · exact List.mem_append_left _ (List.mem_append_left _ z)
      · exact List.mem_append_left _ (List.mem_append_right _ (List.mem_cons_of_mem _ z))
      · exact List.mem_append_right _ (List.mem_append_left _ z)
      · exact List.mem_append_right _ (List.mem_append_right _ (List.mem_append_right _ (List.mem_append_right _ z)))
    · rw [V_map_nb (h + 1) A [v'] B u', htsn, eu1, List.map_cons, ev1]
      rw [List.map_append, List.map_cons, List.map_cons] at n5
      exact n5
    · rw [List.length_append, List.length_append, List.length_cons, List.length_cons, List.length_nil]
      omega
    · have : z = v' := List.mem_singleton.mp hz
      rw [this, ev1]
      have hyu : V_s r1.1 ∈ V_us (h + 1) v.2 := List.mem_append_left _ (List.mem_map.mpr ⟨r1, hr1t, rfl⟩)
      exact (Dv.2.2.1 r1 hr1t).ag ha.uu (ha.1.lt (ivu _ hyu)) G (sav _)
    · have hku : ∀ m ∈ V_nk (h + 1) u.2, (m : Int) < B_cn i ∧ B_nav (fun k q => (B_kA (V_n u.1) k q ∨ B_kA (V_n v.1) k q) ∨ B_mA (V_n u.1) k q ∨ B_mA (V_n v.1) k q ∨ B_mA n k q) m := fun m hm => ⟨ha.2.1.lt (iu m (by rw [V_ns_e]; exact List.mem_cons_of_mem _ hm)), nav m (ou m hm)⟩
      have hkv2 : ∀ m ∈ V_nk (h + 1) v.2, (m : Int) < B_cn i ∧ B_nav (fun k q => (B_kA (V_n u.1) k q ∨ B_kA (V_n v.1) k q) ∨ B_mA (V_n u.1) k q ∨ B_mA (V_n v.1) k q ∨ B_mA n k q) m := fun m hm => ⟨ha.2.1.lt (iv m (by rw [V_ns_e]; exact List.mem_cons_of_mem _ hm)), nav m (ov m hm)⟩
      rcases List.mem_cons.mp hz with w | w
      · rw [w, eu1, eu2]
        have hkid : ∀ (x : N_i V_W (h + 1)) (l : List (N_i V_W (h + 1))), x ∈ l → (∀ m ∈ V_nk (h + 1) l, (m : Int) < B_cn i ∧ B_nav (fun k q => (B_kA (V_n u.1) k q ∨ B_kA (V_n v.1) k q) ∨ B_mA (V_n u.1) k q ∨ B_mA (V_n v.1) k q ∨ B_mA n k q) m) → (∀ s ∈ V_us (h + 1) l, s ∈ us) → C_D S h (V_n x.1) x.2 → C_D S5 h (V_n x.1) x.2 := fun x l hx h1 h2 hC => hC.ag ha.ln ha.uu (fun m hm => (h1 m (List.mem_flatMap.mpr ⟨x, hx, hm⟩)).1) (fun s hs => ha.1.lt (h2 s (List.mem_append_right _ (List.mem_flatMap.mpr ⟨x, hx, hs⟩)))) G (fun m hm => (h1 m (List.mem_flatMap.mpr ⟨x, hx, hm⟩)).2) fun s _ => sav s
        refine C_D_s.mpr ⟨nl5, ?_, fun x hx => ?_, fun x hx => ?_⟩
        · rw [List.length_append, List.length_singleton]
          omega
        · have hxc : x ∈ u.2.tail ∨ x = g0 := by
            cases hu2 : u.2 with
            | nil => exact absurd hu2 hun
            | cons a U =>
              rw [hu2] at hx
              rcases List.mem_append.mp (show x ∈ U ++ [g0] from hx) with g | g
              · exact Or.inl g
              · exact Or.inr (List.mem_singleton.mp g)
          rcases hxc with g | g
          · have hxu : V_s x.1 ∈ V_us (h + 1) u.2 := List.mem_append_left _ (List.mem_map.mpr ⟨x, g, rfl⟩)
            exact (Du.2.2.1 x g).ag ha.uu (ha.1.lt (iuu _ hxu)) G (sav _)
          · rw [g, g01]
            exact (d3 v hvt).ag ha.uu (uin _ hvu) G (sav _)
        · rcases List.mem_append.mp hx with g | g
          · exact hkid x u.2 g hku iuu (Du.2.2.2 x g)
          · rw [List.mem_singleton.mp g, g01, g02']
            exact hkid y v.2 hym hkv2 ivu (Dv.2.2.2 y hym)
      · have : z = v' := List.mem_singleton.mp w
        rw [this, ev1, ev2]
        exact Dv.re (l' := r1 :: r) ha.ln ha.uu (fun m hm => (hkv2 m hm).1) (fun s hs => ha.1.lt (ivu s hs)) G nr5 (by rw [List.length_cons]; omega) (fun x hx => by rw [hv2]; exact List.mem_cons_of_mem _ hx) (fun x hx => by
          rw [hv2]
          exact List.mem_cons_of_mem _ hx) (fun m hm => (hkv2 m hm).2) fun s _ => sav s
end CTF
