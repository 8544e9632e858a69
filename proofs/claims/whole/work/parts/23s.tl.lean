/-! TREES OF THE CLASS: the left neighbour's last comes -/
section CTL
variable {d t j i : Nat} {w1 w2 : Int} {FS us FN ns R R' : List Nat}
theorem V_k_lt {S : B_S} {h n : Nat} {l : List (N_i V_W h)} {ns us : List Nat} {N U : Int} (hN : N ≤ 454) (hU : U ≤ 1369) (hn : ∀ m ∈ V_nk h l, (m : Int) < N) (hu : ∀ s ∈ V_us h l, (s : Int) < U) {y : N_i V_W h} (hy : y ∈ l) : V_k h y < 10000 := by
  cases h with
  | zero =>
    have := hu (V_k 0 y) (List.mem_map.mpr ⟨y, hy, rfl⟩)
    omega
  | succ h =>
    have := hn (V_n y.1) (List.mem_flatMap.mpr ⟨y, hy, V_ns_m h _ _⟩)
    show V_n y.1 < 10000
    omega
theorem V_m_pre (h : Nat) (T : List (N_i V_W h)) (y : N_i V_W h) (hT : T ≠ []) : V_m h (T ++ [y]) = V_m h T ++ (V_m h (T ++ [y])).drop (V_m h T).length := by
  cases h with
  | zero => rfl
  | succ h =>
    cases T with
    | nil => exact absurd rfl hT
    | cons a T =>
      show (T ++ [y]).map _ = T.map _ ++ ((T ++ [y]).map _).drop (T.map _).length
      rw [List.map_append, List.drop_left]
theorem B_no.cut {S : B_S} {n : Nat} {f : Int} {ks ms ms2 : List Nat} (h : B_no S n f ks (ms ++ ms2)) : B_no S n f ks ms := by
  obtain ⟨h1, h2, h3, h4⟩ := h
  rw [B_il_app] at h4
  exact ⟨h1, h2, h3, (b_app.mp h4).1⟩
theorem V_nk_a (h : Nat) (l t : List (N_i V_W h)) : V_nk h (l ++ t) = V_nk h l ++ V_nk h t := by
  cases h with
  | zero => rfl
  | succ h => exact V_nk_app h l t
theorem B_no.setm {S : B_S} {n : Nat} {f : Int} {ks P Q : List Nat} {s s2 : Nat} (h : B_no S n f ks (P ++ s :: Q)) : B_no (B_set S 5 ((n : Int) * 9 + P.length) s2) n f ks (P ++ s2 :: Q) := by
  obtain ⟨h1, h2, h3, h4⟩ := h
  refine ⟨?_, ?_, b_at_keep h3 fun q _ _ => ?_, ?_⟩
  · rw [B_set_v, if_neg (by omega)]
    exact h1
  · rw [B_set_v, if_neg (by omega)]
    exact h2
  · rw [B_set_v, if_neg (by omega)]
  · rw [B_il_app, B_il_c] at h4 ⊢
    obtain ⟨x1, x2⟩ := b_app.mp h4
    obtain ⟨x3, x4⟩ := b_cons.mp x2
    rw [B_il_len] at x2 x3 x4
    refine b_app.mpr ⟨b_at_keep x1 fun q q1 q2 => ?_, b_cons.mpr ⟨?_, ?_⟩⟩
    · rw [B_il_len] at q2
      rw [B_set_v, if_neg (by omega)]
    · rw [B_il_len, B_set_v, if_pos ⟨rfl, by omega⟩]
    · rw [B_il_len]
      refine b_at_keep x4 fun q q1 q2 => ?_
      rw [B_set_v, if_neg (by omega)]
theorem c_takeLast {Q : g_M → Prop} {h n : Nat} {A B : List (N_i V_W (h + 1))} {u v : N_i V_W (h + 1)} {T : List (N_i V_W h)} {y : N_i V_W h} {S : B_S} {M : g_M} (hB : B_t t S M) (ha : B_all S j i FS us FN ns w1 w2) (hD : C_D S (h + 1) n (A ++ u :: v :: B)) (hT : u.2 = T ++ [y]) (hTn : T ≠ []) (hvn : v.2 ≠ []) (hv7 : v.2.length ≤ 7) (hl8 : (A ++ u :: v :: B).length ≤ 8) (hpu : us.Perm (V_us (h + 1) (A ++ u :: v :: B) ++ R)) (hpn : ns.Perm (V_ns (h + 1) n (A ++ u :: v :: B) ++ R')) (hu : us.length < 1370) (hq : ∀ (ms j1 : Nat) (FS1 us1 : List Nat) (S1 : B_S) (M1 : g_M), B_t t S1 M1 → B_Fc t j i j1 i M M1 → B_ag (V_A R' R) V_G4 S S1 → B_all S1 j1 i FS1 us1 FN ns w1 w2 → us1.Perm (V_us (h + 1) (A ++ (N_mk h u.1 T :: [N_mk h ((ms, V_n v.1), V_e (N_f h y)) (y :: V_hd h v.1 v.2)] ++ B)) ++ R) → ns.Perm (V_ns (h + 1) n (A ++ (N_mk h u.1 T :: [N_mk h ((ms, V_n v.1), V_e (N_f h y)) (y :: V_hd h v.1 v.2)] ++ B)) ++ R') → C_D S1 (h + 1) n (A ++ (N_mk h u.1 T :: [N_mk h ((ms, V_n v.1), V_e (N_f h y)) (y :: V_hd h v.1 v.2)] ++ B)) → S1.2.2 17 = S.2.2 17 → S1.2.2 16 = S.2.2 16 → us1.length ≤ us.length → Q M1) : g_Call (d + 4) 189 [.ref t, g_n (V_n u.1), g_n (V_n v.1), g_n ((n : Int) * 9 + A.length)] M (g_qV Q) := by
  obtain ⟨d1, d2, d3, d4⟩ := C_D_s.mp hD
  have hum : u ∈ A ++ u :: v :: B := List.mem_append_right _ List.mem_cons_self
  have hvm : v ∈ A ++ u :: v :: B := List.mem_append_right _ (List.mem_cons_of_mem _ List.mem_cons_self)
  have hvt : v ∈ (A ++ u :: v :: B).tail := by
    cases A with
    | nil => exact List.mem_cons_self
    | cons a A => exact List.mem_append_right _ (List.mem_cons_of_mem _ List.mem_cons_self)
  have Du := d4 u hum
  have Dv := d4 v hvm
  rw [List.length_append, List.length_cons, List.length_cons] at hl8
  -- nodes
  have hnd := (hpn.nodup_iff).mp ha.2.1.nd
  obtain ⟨nd1, nd2, nd3⟩ := List.nodup_append.mp hnd
  rw [V_ns_e] at nd1
  obtain ⟨nd4, nd5⟩ := List.nodup_cons.mp nd1
  rw [V_nk_app, V_nk_c, V_nk_c] at nd4 nd5
  obtain ⟨nd6, nd7, nd8⟩ := List.nodup_append.mp nd5
  obtain ⟨nd9, nd10, nd11⟩ := List.nodup_append.mp nd7
  obtain ⟨nd12, nd13, nd14⟩ := List.nodup_append.mp nd10
  have mem : ∀ m, m ∈ n :: (V_nk (h + 1) A ++ (V_ns h (V_n u.1) u.2 ++ (V_ns h (V_n v.1) v.2 ++ V_nk (h + 1) B))) → m ∈ ns := fun m hm => hpn.mem_iff.mpr (List.mem_append_left _ (by rw [V_ns_e, V_nk_app, V_nk_c, V_nk_c]; exact hm))
  have hnlm : V_n u.1 ∈ V_ns h (V_n u.1) u.2 := V_ns_m h _ _
  have hnrm : V_n v.1 ∈ V_ns h (V_n v.1) v.2 := V_ns_m h _ _
  have iA : ∀ m ∈ V_nk (h + 1) A, m ∈ ns := fun m hm => mem m (List.mem_cons_of_mem _ (List.mem_append_left _ hm))
  have iu : ∀ m ∈ V_ns h (V_n u.1) u.2, m ∈ ns := fun m hm => mem m (List.mem_cons_of_mem _ (List.mem_append_right _ (List.mem_append_left _ hm)))
  have iv : ∀ m ∈ V_ns h (V_n v.1) v.2, m ∈ ns := fun m hm => mem m (List.mem_cons_of_mem _ (List.mem_append_right _ (List.mem_append_right _ (List.mem_append_left _ hm))))
  have iB : ∀ m ∈ V_nk (h + 1) B, m ∈ ns := fun m hm => mem m (List.mem_cons_of_mem _ (List.mem_append_right _ (List.mem_append_right _ (List.mem_append_right _ hm))))
  have inn : n ∈ ns := mem n List.mem_cons_self
  have iR : ∀ m ∈ R', m ∈ ns := fun m hm => hpn.mem_iff.mpr (List.mem_append_right _ hm)
  have nd4' : ∀ k ∈ V_nk (h + 1) A ++ (V_ns h (V_n u.1) u.2 ++ (V_ns h (V_n v.1) v.2 ++ V_nk (h + 1) B)), k ≠ n := fun k hk z => nd4 (z ▸ hk)
  have n_u : n ≠ V_n u.1 := (nd4' _ (List.mem_append_right _ (List.mem_append_left _ hnlm))).symm
  have n_v : n ≠ V_n v.1 := (nd4' _ (List.mem_append_right _ (List.mem_append_right _ (List.mem_append_left _ hnrm)))).symm
  have u_v : V_n u.1 ≠ V_n v.1 := nd11 _ hnlm _ (List.mem_append_left _ hnrm)
  -- what is none of the three
  have oA : ∀ m ∈ V_nk (h + 1) A, m ≠ n ∧ m ≠ V_n u.1 ∧ m ≠ V_n v.1 := fun m hm => ⟨fun z => nd4 (z ▸ List.mem_append_left _ hm), nd8 m hm _ (List.mem_append_left _ hnlm), nd8 m hm _ (List.mem_append_right _ (List.mem_append_left _ hnrm))⟩
  have oB : ∀ m ∈ V_nk (h + 1) B, m ≠ n ∧ m ≠ V_n u.1 ∧ m ≠ V_n v.1 := fun m hm => ⟨fun z => nd4 (z ▸ List.mem_append_right _ (List.mem_append_right _ (List.mem_append_right _ hm))), fun z => nd11 _ hnlm m (List.mem_append_right _ hm) z.symm, fun z => nd14 _ hnrm m hm z.symm⟩
  have ou : ∀ m ∈ V_nk h u.2, m ≠ n ∧ m ≠ V_n u.1 ∧ m ≠ V_n v.1 := fun m hm => by
    have hm2 : m ∈ V_ns h (V_n u.1) u.2 := by rw [V_ns_e]; exact List.mem_cons_of_mem _ hm
    rw [V_ns_e] at nd9
    exact ⟨fun z => nd4 (z ▸ List.mem_append_right _ (List.mem_append_left _ hm2)), fun z => (List.nodup_cons.mp nd9).1 (z ▸ hm), nd11 m hm2 _ (List.mem_append_left _ hnrm)⟩
  have ov : ∀ m ∈ V_nk h v.2, m ≠ n ∧ m ≠ V_n u.1 ∧ m ≠ V_n v.1 := fun m hm => by
    have hm2 : m ∈ V_ns h (V_n v.1) v.2 := by rw [V_ns_e]; exact List.mem_cons_of_mem _ hm
    rw [V_ns_e] at nd12
    exact ⟨fun z => nd4 (z ▸ List.mem_append_right _ (List.mem_append_right _ (List.mem_append_left _ hm2))), fun z => nd11 _ hnlm m (List.mem_append_left _ hm2) z.symm, fun z => (List.nodup_cons.mp nd12).1 (z ▸ hm)⟩
  have oR : ∀ m ∈ R', m ≠ n ∧ m ≠ V_n u.1 ∧ m ≠ V_n v.1 := fun m hm => by
    have h9 : ∀ k, k ∈ V_ns (h + 1) n (A ++ u :: v :: B) → m ≠ k := fun k hk z => nd3 k hk m hm z.symm
    rw [V_ns_e, V_nk_app, V_nk_c, V_nk_c] at h9
    exact ⟨h9 n List.mem_cons_self, h9 _ (List.mem_cons_of_mem _ (List.mem_append_right _ (List.mem_append_left _ hnlm))), h9 _ (List.mem_cons_of_mem _ (List.mem_append_right _ (List.mem_append_right _ (List.mem_append_left _ hnrm))))⟩
  have hnlt := ha.2.1.lt inn
  have hnllt := ha.2.1.lt (iu _ hnlm)
  have hnrlt := ha.2.1.lt (iv _ hnrm)
  obtain ⟨l4, l5, l6, l7, lN⟩ := id ha.ln
  -- slots
  have iuu : ∀ s ∈ V_us h u.2, s ∈ us := fun s hs => hpu.mem_iff.mpr (List.mem_append_left _ (List.mem_append_right _ (List.mem_flatMap.mpr ⟨u, hum, hs⟩)))
  have ivu : ∀ s ∈ V_us h v.2, s ∈ us := fun s hs => hpu.mem_iff.mpr (List.mem_append_left _ (List.mem_append_right _ (List.mem_flatMap.mpr ⟨v, hvm, hs⟩)))
  have hym : y ∈ u.2 := by rw [hT]; exact List.mem_append_right _ List.mem_cons_self
  have hUs := ha.uu
  have hky : V_k h y < 10000 := V_k_lt (S := S) (n := 0) (ns := ns) (us := us) lN hUs.2.2 (fun m hm => ha.2.1.lt (iu m (by rw [V_ns_e]; exact List.mem_cons_of_mem _ hm))) (fun s hs => ha.1.lt (iuu s hs)) hym
  obtain ⟨nou, lu⟩ := Du.no
  obtain ⟨nov, lv⟩ := Dv.no
  have hlT := congrArg List.length hT
  rw [List.length_append, List.length_singleton] at hlT
  have hTl := List.length_pos_iff.mpr hTn
  have hvl := List.length_pos_iff.mpr hvn
  obtain ⟨Tk, hTk⟩ : ∃ Tk, Tk = T.map (V_k h) := ⟨_, rfl⟩
  have hTkl : Tk.length = T.length := by rw [hTk, List.length_map]
  have huk : u.2.map (V_k h) = Tk ++ V_k h y :: [] := by rw [hT, List.map_append, hTk]; rfl
  rw [huk] at nou
  have n2 := nou.2.1
  rw [List.length_append, List.length_singleton, hTkl] at n2
  obtain ⟨cn, c1, c2, c3⟩ := hB.at (k := 6) (by decide)
  obtain ⟨kd, k1, k2, k3⟩ := hB.at (k := 4) (by decide)
  have c2 : g_A M cn 1 (S.1 6) := c2
  have k2 : g_A M kd 1 (S.1 4) := k2
  have hcv : g_i M cn (V_n u.1) = (T.length + 1 : Nat) := by rw [c3 _ (by omega) (by omega)]; exact n2
  have hkv : g_i M kd ((V_n u.1 : Int) * 9 + T.length) = V_k h y := by
    rw [k3 _ (by omega) (by omega)]
    have := nou.2.2.1 T.length (V_k h y) (by
      unfold B_il
      rw [List.getElem?_map, List.getElem?_append_right (by omega), hTkl, Nat.sub_self]
      rfl)
    exact (congrArg (S.2.1 4) (by omega)).trans this
  refine m_X10_takeLast ⟨by omega, by omega⟩ ⟨by omega, by omega⟩ ⟨by omega, by omega⟩ fun _ => ⟨hB.1, cn, c1, S.1 6, c2, ⟨by omega, by omega⟩, ?_⟩
  rw [hcv, show ((T.length + 1 : Nat) : Int) - 1 = T.length by omega]
  refine ⟨⟨by omega, by omega⟩, kd, k1, ⟨by omega, by omega⟩, ⟨by omega, by omega⟩, S.1 4, k2, ⟨by omega, by omega⟩, ?_⟩
  rw [hkv]
  have hTki : (T.length : Int) = Tk.length := by omega
  rw [hTki]
  refine c_removeKid (d := d + 2) (N := B_cn i) hB ha.ln hnllt nou (by rw [List.length_append, List.length_singleton]; omega) (by have := V_m_len h u.2; omega) fun S1 M1 t1 f1 g1 e1 no1 => ?_
  intro _ _
  rw [List.append_nil] at no1
  have a1 := ha.ag g1 e1 (fun q z => by rcases z with ⟨z, -⟩ | ⟨z, -⟩ <;> omega) (fun q z => by rcases z with ⟨z, -⟩ | ⟨z, -⟩ <;> omega) (fun z => z) (fun z => z) (fun z => z) fun z => z
  have nov1 := nov.ag ha.ln hnrlt (by rw [List.length_map]; exact lv) (by have := V_m_len h v.2; omega) g1 (B_kA_nav u_v.symm).1 (B_kA_nav u_v.symm).2.1 (B_kA_nav u_v.symm).2.2
  refine c_insertKid (d := d + 2) (N := B_cn i) (A := []) (B := v.2.map (V_k h)) (k := V_k h y) t1 a1.ln hnrlt nov1 (by rw [List.nil_append, List.length_map]; omega) hky (by have := V_m_len h v.2; omega) fun S2 M2 t2 f2 g2 e2 no2 => ?_
  intro _ _
  rw [List.nil_append] at no2
  have a2 := a1.ag g2 e2 (fun q z => by rcases z with ⟨z, -⟩ | ⟨z, -⟩ <;> omega) (fun q z => by rcases z with ⟨z, -⟩ | ⟨z, -⟩ <;> omega) (fun z => z) (fun z => z) (fun z => z) fun z => z
  have no1b := no1.ag a1.ln hnllt (by omega) (by have := V_m_len h u.2; omega) g2 (B_kA_nav u_v).1 (B_kA_nav u_v).2.1 (B_kA_nav u_v).2.2
  obtain ⟨lf, p1, p2, p3⟩ := t2.at (k := 7) (by decide)
  have p2 : g_A M2 lf 2 (S2.1 7) := p2
  obtain ⟨m4, m5, m6, m7, mN⟩ := id a2.ln
  have g02 : B_ag (fun k q => B_kA (V_n u.1) k q ∨ B_kA (V_n v.1) k q) B_0 S S2 := (g1.up (fun k q z => Or.inl z) fun k z => z).tr (g2.up (fun k q z => Or.inr z) fun k z => z)
  have nav02 : ∀ m, m ≠ V_n u.1 → m ≠ V_n v.1 → B_nav (fun k q => B_kA (V_n u.1) k q ∨ B_kA (V_n v.1) k q) m := fun m q1 q2 => by
    obtain ⟨b1, b2, b3⟩ := B_kA_nav q1
    obtain ⟨c1, c2, c3⟩ := B_kA_nav q2
    exact ⟨fun q q1 q2 => ⟨fun z => z.elim (b1 q q1 q2).1 (c1 q q1 q2).1, fun z => z.elim (b1 q q1 q2).2 (c1 q q1 q2).2⟩, fun z => z.elim b2 c2, fun z => z.elim b3 c3⟩
  have sav02 : ∀ s, B_sav (fun k q => B_kA (V_n u.1) k q ∨ B_kA (V_n v.1) k q) s := fun s => by
    obtain ⟨b1, b2⟩ := B_kA_sav (V_n u.1) s
    obtain ⟨c1, c2⟩ := B_kA_sav (V_n v.1) s
    exact ⟨fun q q1 q2 z => z.elim (b1 q q1 q2) (c1 q q1 q2), fun z => z.elim b2 c2⟩
  have nop := d1.ag ha.ln hnlt (by rw [List.length_map]; exact d2) (by rw [V_ts_len]; omega) g02 (nav02 n n_u n_v).1 (nav02 n n_u n_v).2.1 (nav02 n n_u n_v).2.2
  obtain ⟨P, hP⟩ : ∃ P, P = V_ts h (A ++ [u]) := ⟨_, rfl⟩
  have hPl : P.length = A.length := by rw [hP, V_ts_len, List.length_append, List.length_singleton]; rfl
  have htsp : V_ts h (A ++ u :: v :: B) = P ++ V_s v.1 :: B.map fun z => V_s z.1 := by rw [V_ts_cut, ← hP]; rfl
  rw [htsp] at nop
  have hmkv : S2.2.1 5 ((n : Int) * 9 + A.length) = V_s v.1 := by
    have := nop.2.2.2 A.length (V_s v.1) (by
      unfold B_il
      rw [List.getElem?_map, List.getElem?_append_right (by omega), hPl, Nat.sub_self]
      rfl)
    exact (congrArg (S2.2.1 5) (by omega)).trans this
  refine ⟨lf, p1, S2.1 7, p2, ⟨by omega, by omega⟩, ?_⟩
  rw [p3 _ (by omega) (by omega), no2.1]
  cases h with
  | zero =>
    refine ⟨fun z => absurd z (by decide), fun _ => ?_⟩
    obtain ⟨mk, q1, q2, q3⟩ := t2.at (k := 5) (by decide)
    have q2 : g_A M2 mk 1 (S2.1 5) := q2
    have hmv : g_i M2 mk ((n : Int) * 9 + A.length) = V_s v.1 := by
      rw [q3 _ (by omega) (by omega)]
      exact hmkv
    refine ⟨mk, q1, S2.1 5, q2, ⟨by omega, by omega⟩, ?_⟩
    rw [hmv]
    obtain ⟨u0, hu0⟩ : ∃ u0, u0 = P ++ (B.map fun z => V_s z.1) ++ V_uk 0 (A ++ u :: v :: B) ++ R := ⟨_, rfl⟩
    have hpu0 : us.Perm (V_s v.1 :: u0) := hpu.trans (List.perm_iff_count.mpr fun a => by
      rw [V_us_k, htsp, hu0]
      simp only [List.count_append, List.count_cons]
      omega)
    refine c_freeSlotA (d := d + 2) t2 a2 hpu0 fun S3 M3 t3 f3 g3 e3 a3 => ?_
    intro _ _
    obtain ⟨mk3, r1, -, -⟩ := t3.at (k := 5) (by decide)
    refine ⟨mk3, r1, ?_⟩
    have huk0 : ∀ s ∈ V_uk 0 (A ++ u :: v :: B), s ∈ u0 := fun s hs => by
      rw [hu0]
      exact List.mem_append_left _ (List.mem_append_right _ hs)
    have hus0 : ∀ s ∈ V_us 0 u.2, s ∈ u0 := fun s hs => huk0 s (List.mem_flatMap.mpr ⟨u, hum, hs⟩)
    have hvs0 : ∀ s ∈ V_us 0 v.2, s ∈ u0 := fun s hs => huk0 s (List.mem_flatMap.mpr ⟨v, hvm, hs⟩)
    have hyu : V_k 0 y ∈ V_us 0 u.2 := List.mem_map.mpr ⟨y, hym, rfl⟩
    have hye : B_eg S (V_k 0 y) (V_e y) := Du.2.2 y hym
    have hye3 : B_eg S3 (V_k 0 y) (V_e y) := (hye.ag ha.uu (ha.1.lt (iuu _ hyu)) g02 (sav02 _)).ag a2.uu (a2.1.lt (iuu _ hyu)) g3 (B_2_sav _)
    have hl0 := hpu0.length_eq
    rw [List.length_cons] at hl0
    refine c_markLike (d := d) t3 a3 (by omega) (hus0 _ hyu) hye3 fun ms j1 FS1 S4 M4 t4 f4 g4 a4 e4 hr4 => ?_
    intro _ _ _
    have r14 : g_r M4 t ((5 : Nat) : Int) = some mk3 := by rw [hr4 5 (by decide)]; exact r1
    have r24 := B_nfs (v := 0) t4 (k := 5) (by decide) r14
    have r24 : g_A M4 mk3 1 (S4.1 5) := r24
    obtain ⟨x4, x5, x6, x7, xN⟩ := id a4.ln
    refine ⟨S4.1 5, r24, ⟨by omega, by omega⟩, fun M5 e5 _ => ?_⟩
    obtain ⟨t5, f5⟩ := t4.set (k := 5) (by decide) r14 ((n : Int) * 9 + A.length) (ms : Int)
    rw [← e5] at t5 f5
    have hms : ms ∉ u0 := (List.nodup_cons.mp a4.1.nd).1
    have g5 : B_ag (B_mA n) B_0 S4 (B_set S4 5 ((n : Int) * 9 + A.length) ms) := B_ag.set _ _ _ _ _ _ ⟨rfl, by omega, by omega⟩
    have a5 := a4.ag g5 rfl (fun q z => by have := z.1; omega) (fun q z => by have := z.1; omega) (fun z => z) (fun z => z) (fun z => z) fun z => z
    have n5 := (((nop.ag a2.ln hnlt (by rw [List.length_map]; exact d2) (by rw [List.length_append, List.length_cons, hPl, List.length_map]; omega) g3 (B_2_nav n).1 (B_2_nav n).2.1 (B_2_nav n).2.2).ag a3.ln hnlt (by rw [List.length_map]; exact d2) (by rw [List.length_append, List.length_cons, hPl, List.length_map]; omega) g4 (B_lA_nav ms n).1 (B_lA_nav ms n).2.1 (B_lA_nav ms n).2.2)).setm (s2 := ms)
    rw [hPl] at n5
    obtain ⟨S5, hS5⟩ : ∃ S5, S5 = B_set S4 5 ((n : Int) * 9 + A.length) ms := ⟨_, rfl⟩
    rw [← hS5] at t5 g5 a5 n5
    have G : B_ag (fun k q => (B_kA (V_n u.1) k q ∨ B_kA (V_n v.1) k q) ∨ k = 2 ∨ B_lA ms k q ∨ B_mA n k q) (fun k => k = 3) S S5 := (((g02.up (fun k q z => Or.inl z) fun k z => z.elim).tr (g3.up (fun k q z => Or.inr (Or.inl z)) fun k z => z)).tr (g4.up (fun k q z => Or.inr (Or.inr (Or.inl z))) fun k z => z)).tr (g5.up (fun k q z => Or.inr (Or.inr (Or.inr z))) fun k z => z.elim)
    have nav : ∀ m, m ≠ n ∧ m ≠ V_n u.1 ∧ m ≠ V_n v.1 → B_nav (fun k q => (B_kA (V_n u.1) k q ∨ B_kA (V_n v.1) k q) ∨ k = 2 ∨ B_lA ms k q ∨ B_mA n k q) m := fun m hm => by
      obtain ⟨b1, b2, b3⟩ := nav02 m hm.2.1 hm.2.2
      obtain ⟨c1, c2, c3⟩ := B_lA_nav ms m
      obtain ⟨d1, d2, d3⟩ := B_mA_nav hm.1
      exact ⟨fun q q1 q2 => ⟨fun z => z.elim (b1 q q1 q2).1 fun z => z.elim (fun z => by omega) fun z => z.elim (c1 q q1 q2).1 (d1 q q1 q2).1, fun z => z.elim (b1 q q1 q2).2 fun z => z.elim (fun z => by omega) fun z => z.elim (c1 q q1 q2).2 (d1 q q1 q2).2⟩, fun z => z.elim b2 fun z => z.elim (fun z => by omega) fun z => z.elim c2 d2, fun z => z.elim b3 fun z => z.elim (fun z => by omega) fun z => z.elim c3 d3⟩
    have sav : ∀ s, s ∈ u0 → B_sav (fun k q => (B_kA (V_n u.1) k q ∨ B_kA (V_n v.1) k q) ∨ k = 2 ∨ B_lA ms k q ∨ B_mA n k q) s := fun s hs => by
      obtain ⟨b1, b2⟩ := sav02 s
      obtain ⟨c1, c2⟩ := B_lA_sav (s := ms) (s2 := s) fun z => hms (z ▸ hs)
      obtain ⟨d1, d2⟩ := B_mA_sav n s
      exact ⟨fun q q1 q2 z => z.elim (b1 q q1 q2) fun z => z.elim (fun z => by omega) fun z => z.elim (c1 q q1 q2) (d1 q q1 q2), fun z => z.elim b2 fun z => z.elim (fun z => by omega) fun z => z.elim c2 d2⟩
    have way : ∀ q : Int, ¬ ((B_kA (V_n u.1) 10 q ∨ B_kA (V_n v.1) 10 q) ∨ (10 : Nat) = 2 ∨ B_lA ms 10 q ∨ B_mA n 10 q) ∧ ¬ ((B_kA (V_n u.1) 11 q ∨ B_kA (V_n v.1) 11 q) ∨ (11 : Nat) = 2 ∨ B_lA ms 11 q ∨ B_mA n 11 q) := fun q => by
      constructor
      · rintro (((⟨z, -⟩ | ⟨z, -⟩) | (⟨z, -⟩ | ⟨z, -⟩)) | z | (z | ⟨z, -⟩ | ⟨z, -⟩) | ⟨z, -⟩) <;> omega
      · rintro (((⟨z, -⟩ | ⟨z, -⟩) | (⟨z, -⟩ | ⟨z, -⟩)) | z | (z | ⟨z, -⟩ | ⟨z, -⟩) | ⟨z, -⟩) <;> omega
    have uin : ∀ s ∈ u0, (s : Int) < B_cs j := fun s hs => ha.1.lt (hpu0.mem_iff.mpr (List.mem_cons_of_mem _ hs))
    have nl5 : B_no S5 (V_n u.1) (V_f 0) (T.map (V_k 0)) (V_m 0 T) := by
      rw [← hTk]
      exact ((no1b.ag a2.ln hnllt (by omega) (Nat.zero_le _) g3 (B_2_nav (V_n u.1)).1 (B_2_nav (V_n u.1)).2.1 (B_2_nav (V_n u.1)).2.2).ag a3.ln hnllt (by omega) (Nat.zero_le _) g4 (B_lA_nav ms (V_n u.1)).1 (B_lA_nav ms (V_n u.1)).2.1 (B_lA_nav ms (V_n u.1)).2.2).ag a4.ln (a4.2.1.lt (iu _ hnlm)) (by omega) (Nat.zero_le _) g5 (B_mA_nav n_u.symm).1 (B_mA_nav n_u.symm).2.1 (B_mA_nav n_u.symm).2.2
    have nr5 : B_no S5 (V_n v.1) (V_f 0) ((y :: V_hd 0 v.1 v.2).map (V_k 0)) (V_m 0 (y :: V_hd 0 v.1 v.2)) := by
      have hl : ((V_k 0 y) :: v.2.map (V_k 0)).length ≤ 9 := by rw [List.length_cons, List.length_map]; omega
      exact ((no2.ag a2.ln hnrlt hl (Nat.zero_le _) g3 (B_2_nav (V_n v.1)).1 (B_2_nav (V_n v.1)).2.1 (B_2_nav (V_n v.1)).2.2).ag a3.ln hnrlt hl (Nat.zero_le _) g4 (B_lA_nav ms (V_n v.1)).1 (B_lA_nav ms (V_n v.1)).2.1 (B_lA_nav ms (V_n v.1)).2.2).ag a4.ln (a4.2.1.lt (iv _ hnrm)) hl (Nat.zero_le _) g5 (B_mA_nav n_v.symm).1 (B_mA_nav n_v.symm).2.1 (B_mA_nav n_v.symm).2.2
    have htsn : V_ts 0 (A ++ (N_mk 0 u.1 T :: [N_mk 0 ((ms, V_n v.1), V_e (N_f 0 y)) (y :: V_hd 0 v.1 v.2)] ++ B)) = P ++ ([ms] ++ B.map fun z => V_s z.1) := by
      rw [V_ts_nb 0 A [N_mk 0 ((ms, V_n v.1), V_e (N_f 0 y)) (y :: V_hd 0 v.1 v.2)] B (u := u) (y := N_mk 0 u.1 T) rfl, ← hP]
      rfl
    refine hq ms j1 FS1 (ms :: u0) S5 M5 t5 ((((f1.tr0 f2).tr0 f3).c j i).tr (f4.tr (f5.c j1 i))) (G.up (V_A.of (fun m hm => nav m (oR m hm)) (fun s hs => sav s (by rw [hu0]; exact List.mem_append_right _ hs)) way) fun k z => Or.inl z) a5 ?_ ?_ (hD.nb (N := B_cn i) (U := B_cs j) ha.ln ha.uu (fun m hm => ⟨ha.2.1.lt (hm.elim (iA m) (iB m)), nav m (hm.elim (oA m) (oB m))⟩) (fun s hs => ?_) G ?_ rfl ?_ (fun z hz => ?_) fun z hz => ?_) ?_ ?_ (by rw [List.length_cons]; omega)
    · refine List.perm_iff_count.mpr fun a => ?_
      rw [V_us_k, htsn, hu0, V_uk_app, V_uk_app, V_uk_app, V_uk_c, V_uk_c, V_uk_c, V_uk_c, N_mk_2, N_mk_2, hT, V_us_0, V_us_0, V_us_0, List.map_append]
      show _ = List.count a (P ++ ([ms] ++ B.map fun z => V_s z.1) ++ (V_uk 0 A ++ (T.map (V_k 0) ++ ((V_k 0 y :: v.2.map (V_k 0)) ++ []) ++ V_uk 0 B)) ++ R)
      rw [List.map_cons, List.map_nil]
      simp only [List.count_append, List.count_cons, List.count_nil]
      omega
    · refine hpn.trans (List.perm_iff_count.mpr fun a => ?_)
      rw [V_ns_e 1, V_ns_e 1, V_nk_app, V_nk_app, V_nk_app, V_nk_c, V_nk_c, V_nk_c, V_nk_c]
      show List.count a (n :: (V_nk 1 A ++ ([V_n u.1] ++ ([V_n v.1] ++ V_nk 1 B))) ++ R') = List.count a (n :: (V_nk 1 A ++ ([V_n u.1] ++ ([V_n v.1] ++ []) ++ V_nk 1 B)) ++ R')
      simp only [List.count_append, List.count_cons, List.count_nil]
      omega
    · have : s ∈ u0 := by
        rw [hu0]
        rw [← hP] at hs
        rcases hs with z | z | z | z
        · exact List.mem_append_left _ (List.mem_append_left _ (List.mem_append_left _ z))
        · exact List.mem_append_left _ (List.mem_append_left _ (List.mem_append_right _ z))
        · refine List.mem_append_left _ (List.mem_append_right _ ?_)
          rw [V_uk_app]
          exact List.mem_append_left _ z
        · refine List.mem_append_left _ (List.mem_append_right _ ?_)
          rw [V_uk_app, V_uk_c, V_uk_c]
          exact List.mem_append_right _ (List.mem_append_right _ (List.mem_append_right _ z))
      exact ⟨uin s this, sav s this⟩
    · rw [V_map_nb 0 A [N_mk 0 ((ms, V_n v.1), V_e (N_f 0 y)) (y :: V_hd 0 v.1 v.2)] B (N_mk 0 u.1 T), htsn]
      rw [List.map_append, List.map_cons, List.map_cons] at n5
      exact n5
    · rw [List.length_append, List.length_append, List.length_cons, List.length_cons, List.length_nil]
      omega
    · have : z = N_mk 0 ((ms, V_n v.1), V_e (N_f 0 y)) (y :: V_hd 0 v.1 v.2) := List.mem_singleton.mp hz
      subst this
      exact e4.ag a4.uu (a4.1.lt List.mem_cons_self) g5 (B_mA_sav n ms)
    · rcases List.mem_cons.mp hz with w | w
      · subst w
        exact Du.re (l' := T) ha.ln ha.uu (fun m hm => absurd hm (by simp [V_nk])) (fun s hs => uin s (hus0 s hs)) G nl5 (by omega) (fun x hx => by rw [hT]; exact List.mem_append_left _ hx) (fun x hx => by
          rw [hT]
          cases T with
          | nil => exact absurd hx (by simp)
          | cons a T => exact List.mem_append_left _ hx) (fun m hm => absurd hm (by simp [V_nk])) fun s hs => sav s (hus0 s hs)
      · have : z = N_mk 0 ((ms, V_n v.1), V_e (N_f 0 y)) (y :: V_hd 0 v.1 v.2) := List.mem_singleton.mp w
        subst this
        refine C_D_0.mpr ⟨nr5, ?_, fun x hx => ?_⟩
        · show (y :: v.2).length ≤ 9
          rw [List.length_cons]
          omega
        · rcases List.mem_cons.mp (show x ∈ y :: v.2 from hx) with g | g
          · rw [g]
            exact hye.ag ha.uu (uin _ (hus0 _ hyu)) G (sav _ (hus0 _ hyu))
          · have hxu : V_k 0 x ∈ V_us 0 v.2 := List.mem_map.mpr ⟨x, g, rfl⟩
            exact (Dv.2.2 x g).ag ha.uu (uin _ (hvs0 _ hxu)) G (sav _ (hvs0 _ hxu))
    · rw [G.2.2 17 (by decide)]
    · rw [G.2.2 16 (by decide)]
  | succ h =>
    refine ⟨fun _ => ?_, fun z => absurd rfl z⟩
    obtain ⟨z0, r0, hz0⟩ : ∃ z0 r0, v.2 = z0 :: r0 := by
      cases hv2 : v.2 with
      | nil => exact absurd hv2 hvn
      | cons z0 r0 => exact ⟨z0, r0, rfl⟩
    obtain ⟨v', hv'⟩ : ∃ v', v' = N_mk (h + 1) ((V_s y.1, V_n v.1), V_e (N_f (h + 1) y)) (y :: V_hd (h + 1) v.1 v.2) := ⟨_, rfl⟩
    have v1 : v'.1 = ((V_s y.1, V_n v.1), V_e y.1) := by rw [hv']; rfl
    have v2 : v'.2 = y :: V_hd (h + 1) v.1 v.2 := by rw [hv']; rfl
    have hhd : V_hd (h + 1) v.1 v.2 = N_mk h ((V_s v.1, V_n z0.1), V_e v.1) z0.2 :: r0 := by rw [hz0]; rfl
    have hvl2 : v.2.length = r0.length + 1 := by rw [hz0, List.length_cons]
    have hvts : V_ts h v.2 = r0.map fun z => V_s z.1 := by rw [hz0]; rfl
    have huts : V_ts h u.2 = V_ts h T ++ [V_s y.1] := by
      rw [hT]
      cases T with
      | nil => exact absurd rfl hTn
      | cons a T =>
        show (T ++ [y]).map _ = T.map _ ++ [_]
        rw [List.map_append]
        rfl
    have hTtl : (V_ts h T).length = T.length - 1 := V_ts_len h T
    have hvn' : V_m (h + 1) (y :: V_hd (h + 1) v.1 v.2) = V_s v.1 :: r0.map fun z => V_s z.1 := by
      show V_ts h (y :: V_hd (h + 1) v.1 v.2) = _
      rw [hhd]
      rfl
    obtain ⟨mk, q1, q2, q3⟩ := t2.at (k := 5) (by decide)
    have q2 : g_A M2 mk 1 (S2.1 5) := q2
    obtain ⟨cn2, s1, s2, s3⟩ := t2.at (k := 6) (by decide)
    have s2 : g_A M2 cn2 1 (S2.1 6) := s2
    have hcv2 : g_i M2 cn2 (V_n v.1) = (r0.length + 2 : Nat) := by
      rw [s3 _ (by omega) (by omega), no2.2.1, List.length_cons, List.length_map, hvl2]
    refine ⟨mk, q1, ⟨by omega, by omega⟩, mk, q1, ⟨by omega, by omega⟩, ⟨by omega, by omega⟩, cn2, s1, S2.1 6, s2, ⟨by omega, by omega⟩, ?_⟩
    rw [hcv2]
    refine ⟨⟨by omega, by omega⟩, S2.1 5, q2, S2.1 5, q2, ⟨by omega, by omega, by omega, by omega, by omega⟩, fun M44 e44 _ => ?_⟩
    obtain ⟨t3, f3⟩ := t2.cpy (k := 5) (k1 := 5) (sp := (V_n v.1 : Int) * 9) (dp := (V_n v.1 : Int) * 9 + 1) (n := ((r0.length + 2 : Nat) : Int) - 2) (by decide) (by decide) q1 q1 (by omega) (by omega)
    rw [← e44] at t3 f3
    obtain ⟨mk3, r1, r2, r3⟩ := t3.at (k := 5) (by decide)
    have r2 : g_A M44 mk3 1 (S2.1 5) := r2
    have hv3 : g_i M44 mk3 ((n : Int) * 9 + A.length) = V_s v.1 := by
      rw [r3 _ (by omega) (by show _ < S2.1 5; omega), B_cp_v, if_neg (by omega)]
      exact hmkv
    refine ⟨mk3, r1, ⟨by omega, by omega⟩, mk3, r1, S2.1 5, r2, ⟨by omega, by omega⟩, S2.1 5, r2, ⟨by omega, by omega⟩, ?_⟩
    rw [hv3]
    intro M59 e59 _
    obtain ⟨t4, f4⟩ := t3.set (k := 5) (by decide) r1 ((V_n v.1 : Int) * 9) (V_s v.1 : Int)
    rw [← e59] at t4 f4
    obtain ⟨mk4, x1, x2, x3⟩ := t4.at (k := 5) (by decide)
    have x2 : g_A M59 mk4 1 (S2.1 5) := x2
    have hum4 : S2.2.1 5 ((V_n u.1 : Int) * 9 + Tk.length - 1) = V_s y.1 := by
      have h8 := no1b.2.2.2
      rw [show V_m (h + 1) u.2 = V_ts h u.2 from rfl, huts] at h8
      have := h8 (V_ts h T).length (V_s y.1) (by
        unfold B_il
        rw [List.getElem?_map, List.getElem?_append_right (Nat.le_refl _), Nat.sub_self]
        rfl)
      exact (congrArg (S2.2.1 5) (by omega)).trans this
    have hv4 : g_i M59 mk4 ((V_n u.1 : Int) * 9 + Tk.length - 1) = V_s y.1 := by
      rw [x3 _ (by omega) (by show _ < S2.1 5; omega), B_set_v, if_neg (by omega), B_cp_v, if_neg (by omega)]
      exact hum4
    refine ⟨mk4, x1, mk4, x1, ⟨by omega, by omega⟩, ⟨by omega, by omega⟩, ⟨by omega, by omega⟩, S2.1 5, x2, ⟨by omega, by omega⟩, S2.1 5, x2, ⟨by omega, by omega⟩, ?_⟩
    rw [hv4]
    intro M76 e76 _
    obtain ⟨t5, f5⟩ := t4.set (k := 5) (by decide) x1 ((n : Int) * 9 + A.length) (V_s y.1 : Int)
    rw [← e76] at t5 f5
    obtain ⟨S5, hS5⟩ : ∃ S5, S5 = B_set (B_set (B_cp S2 5 5 ((V_n v.1 : Int) * 9) ((V_n v.1 : Int) * 9 + 1) (((r0.length + 2 : Nat) : Int) - 2)) 5 ((V_n v.1 : Int) * 9) (V_s v.1)) 5 ((n : Int) * 9 + A.length) (V_s y.1) := ⟨_, rfl⟩
    rw [← hS5] at t5
    have hv : ∀ (k2 : Nat) (q : Int), S5.2.1 k2 q = if k2 = 5 ∧ q = (n : Int) * 9 + A.length then (V_s y.1 : Int) else if k2 = 5 ∧ q = (V_n v.1 : Int) * 9 then (V_s v.1 : Int) else if k2 = 5 ∧ (V_n v.1 : Int) * 9 + 1 ≤ q ∧ q < (V_n v.1 : Int) * 9 + 1 + (((r0.length + 2 : Nat) : Int) - 2) then S2.2.1 5 ((V_n v.1 : Int) * 9 + (q - ((V_n v.1 : Int) * 9 + 1))) else S2.2.1 k2 q := fun k2 q => by
      rw [hS5, B_set_v, B_set_v, B_cp_v]
    have g5 : B_ag (fun k q => B_mA (V_n v.1) k q ∨ B_mA n k q) B_0 S2 S5 := ⟨fun k2 => by rw [hS5]; exact Int.le_refl _, fun k2 q hA _ _ => by
      rw [hv, if_neg fun z => hA (Or.inr ⟨z.1, by omega, by omega⟩), if_neg fun z => hA (Or.inl ⟨z.1, by omega, by omega⟩), if_neg fun z => hA (Or.inl ⟨z.1, by omega, by omega⟩)], fun k2 _ => by rw [hS5]; rfl⟩
    have a5 : B_all S5 j i FS us FN ns w1 w2 := a2.ag g5 (by rw [hS5]; rfl) (fun q z => by rcases z with ⟨z, -⟩ | ⟨z, -⟩ <;> omega) (fun q z => by rcases z with ⟨z, -⟩ | ⟨z, -⟩ <;> omega) (fun z => z) (fun z => z) (fun z => z) fun z => z
    have G : B_ag (fun k q => (B_kA (V_n u.1) k q ∨ B_kA (V_n v.1) k q) ∨ B_mA (V_n v.1) k q ∨ B_mA n k q) B_0 S S5 := (g02.up (fun k q z => Or.inl z) fun k z => z).tr (g5.up (fun k q z => Or.inr z) fun k z => z)
    have nav : ∀ m, m ≠ n ∧ m ≠ V_n u.1 ∧ m ≠ V_n v.1 → B_nav (fun k q => (B_kA (V_n u.1) k q ∨ B_kA (V_n v.1) k q) ∨ B_mA (V_n v.1) k q ∨ B_mA n k q) m := fun m hm => by
      obtain ⟨b1, b2, b3⟩ := nav02 m hm.2.1 hm.2.2
      obtain ⟨c1, c2, c3⟩ := B_mA_nav hm.2.2
      obtain ⟨d1, d2, d3⟩ := B_mA_nav hm.1
      exact ⟨fun q q1 q2 => ⟨fun z => z.elim (b1 q q1 q2).1 fun z => z.elim (c1 q q1 q2).1 (d1 q q1 q2).1, fun z => z.elim (b1 q q1 q2).2 fun z => z.elim (c1 q q1 q2).2 (d1 q q1 q2).2⟩, fun z => z.elim b2 fun z => z.elim c2 d2, fun z => z.elim b3 fun z => z.elim c3 d3⟩
    have sav : ∀ s, B_sav (fun k q => (B_kA (V_n u.1) k q ∨ B_kA (V_n v.1) k q) ∨ B_mA (V_n v.1) k q ∨ B_mA n k q) s := fun s => by
      obtain ⟨b1, b2⟩ := sav02 s
      obtain ⟨c1, c2⟩ := B_mA_sav (V_n v.1) s
      obtain ⟨d1, d2⟩ := B_mA_sav n s
      exact ⟨fun q q1 q2 z => z.elim (b1 q q1 q2) fun z => z.elim (c1 q q1 q2) (d1 q q1 q2), fun z => z.elim b2 fun z => z.elim c2 d2⟩
    have way : ∀ q : Int, ¬ ((B_kA (V_n u.1) 10 q ∨ B_kA (V_n v.1) 10 q) ∨ B_mA (V_n v.1) 10 q ∨ B_mA n 10 q) ∧ ¬ ((B_kA (V_n u.1) 11 q ∨ B_kA (V_n v.1) 11 q) ∨ B_mA (V_n v.1) 11 q ∨ B_mA n 11 q) := fun q => by
      constructor
      · rintro (((⟨z, -⟩ | ⟨z, -⟩) | (⟨z, -⟩ | ⟨z, -⟩)) | ⟨z, -⟩ | ⟨z, -⟩) <;> omega
      · rintro (((⟨z, -⟩ | ⟨z, -⟩) | (⟨z, -⟩ | ⟨z, -⟩)) | ⟨z, -⟩ | ⟨z, -⟩) <;> omega
    have n5 : B_no S5 n 0 ((A ++ u :: v :: B).map (V_k (h + 2))) (P ++ V_s y.1 :: B.map fun z => V_s z.1) := by
      obtain ⟨b1, b2, b3, b4⟩ := nop
      refine ⟨?_, ?_, b_at_keep b3 fun q _ _ => ?_, ?_⟩
      · rw [hv, if_neg (by omega), if_neg (by omega), if_neg (by omega)]
        exact b1
      · rw [hv, if_neg (by omega), if_neg (by omega), if_neg (by omega)]
        exact b2
      · rw [hv, if_neg (by omega), if_neg (by omega), if_neg (by omega)]
      · rw [B_il_app, B_il_c] at b4 ⊢
        obtain ⟨y1, y2⟩ := b_app.mp b4
        obtain ⟨y3, y4⟩ := b_cons.mp y2
        rw [B_il_len, hPl] at y4
        refine b_app.mpr ⟨b_at_keep y1 fun q q1 q2 => ?_, b_cons.mpr ⟨?_, ?_⟩⟩
        · rw [B_il_len, hPl] at q2
          rw [hv, if_neg (by omega), if_neg (by omega), if_neg (by omega)]
        · rw [B_il_len, hPl, hv, if_pos ⟨rfl, by omega⟩]
        · rw [B_il_len, hPl]
          refine b_at_keep y4 fun q q1 q2 => ?_
          rw [B_il_len, List.length_map] at q2
          rw [hv, if_neg (by omega), if_neg (by omega), if_neg (by omega)]
    have nl5 : B_no S5 (V_n u.1) (V_f (h + 1)) (T.map (V_k (h + 1))) (V_m (h + 1) T) := by
      rw [← hTk]
      have h8 : B_no S2 (V_n u.1) (V_f (h + 1)) Tk (V_ts h T) := by
        have h9 := no1b
        rw [show V_m (h + 1) u.2 = V_ts h u.2 from rfl, huts] at h9
        exact h9.cut
      refine h8.ag a2.ln hnllt (by omega) (by omega) g5 (fun q q1 q2 => ⟨fun z => ?_, fun z => ?_⟩) (fun z => ?_) fun z => ?_
      · rcases z with ⟨z, -⟩ | ⟨z, -⟩ <;> omega
      · rcases z with ⟨-, z1, z2⟩ | ⟨-, z1, z2⟩ <;> omega
      · rcases z with ⟨z, -⟩ | ⟨z, -⟩ <;> omega
      · rcases z with ⟨z, -⟩ | ⟨z, -⟩ <;> omega
    have nr5 : B_no S5 (V_n v.1) (V_f (h + 1)) ((y :: V_hd (h + 1) v.1 v.2).map (V_k (h + 1))) (V_m (h + 1) (y :: V_hd (h + 1) v.1 v.2)) := by
      obtain ⟨b1, b2, b3, b4⟩ := no2
      rw [List.map_cons, V_hd_k, hvn']
      refine ⟨?_, ?_, b_at_keep b3 fun q _ _ => ?_, ?_⟩
      · rw [hv, if_neg (by omega), if_neg (by omega), if_neg (by omega)]
        exact b1
      · rw [hv, if_neg (by omega), if_neg (by omega), if_neg (by omega)]
        exact b2
      · rw [hv, if_neg (by omega), if_neg (by omega), if_neg (by omega)]
      · rw [show V_m (h + 1) v.2 = V_ts h v.2 from rfl, hvts] at b4
        rw [B_il_c]
        refine b_cons.mpr ⟨?_, fun q w hq2 => ?_⟩
        · rw [hv, if_neg (by omega), if_pos ⟨rfl, by omega⟩]
        · have := (List.getElem?_eq_some_iff.mp hq2).1
          rw [B_il_len, List.length_map] at this
          rw [hv, if_neg (by omega), if_neg (by omega), if_pos ⟨rfl, by omega, by omega⟩]
          exact (congrArg (S2.2.1 5) (by omega)).trans (b4 q w hq2)
    have htsn : V_ts (h + 1) (A ++ (N_mk (h + 1) u.1 T :: [v'] ++ B)) = P ++ ([V_s y.1] ++ B.map fun z => V_s z.1) := by
      rw [V_ts_nb (h + 1) A [v'] B (u := u) (y := N_mk (h + 1) u.1 T) rfl, ← hP, List.map_cons, v1]
      rfl
    have hq2 := hq (V_s y.1) j FS us S5 M76 t5 ((((((f1.tr0 f2).tr0 f3).tr0 f4).tr0 f5)).c j i) (G.up (V_A.of (fun m hm => nav m (oR m hm)) (fun s hs => sav s) way) fun k z => z.elim) a5
    rw [← hv'] at hq2
    have hyt : y ∈ u.2.tail := by
      rw [hT]
      cases T with
      | nil => exact absurd rfl hTn
      | cons a T => exact List.mem_append_right _ List.mem_cons_self
    have uin : ∀ s ∈ V_us (h + 2) (A ++ u :: v :: B), (s : Int) < B_cs j := fun s hs => ha.1.lt (hpu.mem_iff.mpr (List.mem_append_left _ hs))
    have hvu : V_s v.1 ∈ V_us (h + 2) (A ++ u :: v :: B) := List.mem_append_left _ (List.mem_map.mpr ⟨v, hvt, rfl⟩)
    refine hq2 ?_ ?_ (hD.nb (N := B_cn i) (U := B_cs j) ha.ln ha.uu (fun m hm => ⟨ha.2.1.lt (hm.elim (iA m) (iB m)), nav m (hm.elim (oA m) (oB m))⟩) (fun s hs => ⟨uin s ?_, sav s⟩) G ?_ rfl ?_ (fun z hz => ?_) fun z hz => ?_) (by rw [G.2.2 17 fun z => z]) (by rw [G.2.2 16 fun z => z]) (Nat.le_refl _)
    · refine hpu.trans (List.perm_iff_count.mpr fun a => ?_)
      rw [V_us_k, V_us_k, htsp, htsn, V_uk_app, V_uk_app, V_uk_app, V_uk_c, V_uk_c, V_uk_c, V_uk_c, N_mk_2, v2, V_us_k h u.2, V_us_k h T, V_us_k h v.2, huts, hvts, hT, V_uk_app, V_us_k h (y :: V_hd (h + 1) v.1 v.2), hz0]
      show _ = List.count a (P ++ ([V_s y.1] ++ B.map fun z => V_s z.1) ++ (V_uk (h + 1) A ++ ((V_ts h T ++ V_uk h T) ++ (((V_s v.1 :: r0.map fun z => V_s z.1) ++ (V_us h y.2 ++ (V_us h z0.2 ++ V_uk h r0))) ++ []) ++ V_uk (h + 1) B)) ++ R)
      rw [V_uk_c, V_uk_c]
      show List.count a (P ++ V_s v.1 :: (B.map fun z => V_s z.1) ++ (V_uk (h + 1) A ++ (V_ts h T ++ [V_s y.1] ++ (V_uk h T ++ (V_us h y.2 ++ [])) ++ ((r0.map fun z => V_s z.1) ++ (V_us h z0.2 ++ V_uk h r0) ++ V_uk (h + 1) B))) ++ R) = _
      simp only [List.count_append, List.count_cons, List.count_nil]
      omega
    · refine hpn.trans (List.perm_iff_count.mpr fun a => ?_)
      rw [V_ns_e (h + 2), V_ns_e (h + 2), V_nk_app, V_nk_app, V_nk_app, V_nk_c, V_nk_c, V_nk_c, V_nk_c, N_mk_2, v1, v2, V_ns_e (h + 1), V_ns_e (h + 1), V_ns_e (h + 1), V_ns_e (h + 1), hT, V_nk_a, hhd, hz0]
      show _ = List.count a (n :: (V_nk (h + 2) A ++ ((V_n u.1 :: V_nk (h + 1) T) ++ ((V_n v.1 :: (V_ns h (V_n y.1) y.2 ++ (V_ns h (V_n z0.1) z0.2 ++ V_nk (h + 1) r0))) ++ []) ++ V_nk (h + 2) B)) ++ R')
      rw [V_nk_c]
      show List.count a (n :: (V_nk (h + 2) A ++ (V_n u.1 :: (V_nk (h + 1) T ++ (V_ns h (V_n y.1) y.2 ++ [])) ++ (V_n v.1 :: (V_ns h (V_n z0.1) z0.2 ++ V_nk (h + 1) r0) ++ V_nk (h + 2) B))) ++ R') = _
      simp only [List.count_append, List.count_cons, List.count_nil]
      omega
    · rw [V_us_k, htsp, V_uk_app, V_uk_c, V_uk_c, ← hP] at *
      rcases hs with z | z | z | z
      · exact List.mem_append_left _ (List.mem_append_left _ z)
      · exact List.mem_append_left _ (List.mem_append_right _ (List.mem_cons_of_mem _ z))
      · exact List.mem_append_right _ (List.mem_append_left _ z)
      · exact List.mem_append_right _ (List.mem_append_right _ (List.mem_append_right _ (List.mem_append_right _ z)))
    · rw [V_map_nb (h + 1) A [v'] B (N_mk (h + 1) u.1 T), htsn, List.map_cons, v1]
      rw [List.map_append, List.map_cons, List.map_cons] at n5
      exact n5
    · rw [List.length_append, List.length_append, List.length_cons, List.length_cons, List.length_nil]
      omega
    · have : z = v' := List.mem_singleton.mp hz
      rw [this, v1]
      have hyu : V_s y.1 ∈ V_us (h + 1) u.2 := List.mem_append_left _ (List.mem_map.mpr ⟨y, hyt, rfl⟩)
      exact (Du.2.2.1 y hyt).ag ha.uu (ha.1.lt (iuu _ hyu)) G (sav _)
    · have hku : ∀ m ∈ V_nk (h + 1) u.2, (m : Int) < B_cn i ∧ B_nav (fun k q => (B_kA (V_n u.1) k q ∨ B_kA (V_n v.1) k q) ∨ B_mA (V_n v.1) k q ∨ B_mA n k q) m := fun m hm => ⟨ha.2.1.lt (iu m (by rw [V_ns_e]; exact List.mem_cons_of_mem _ hm)), nav m (ou m hm)⟩
      have hkv2 : ∀ m ∈ V_nk (h + 1) v.2, (m : Int) < B_cn i ∧ B_nav (fun k q => (B_kA (V_n u.1) k q ∨ B_kA (V_n v.1) k q) ∨ B_mA (V_n v.1) k q ∨ B_mA n k q) m := fun m hm => ⟨ha.2.1.lt (iv m (by rw [V_ns_e]; exact List.mem_cons_of_mem _ hm)), nav m (ov m hm)⟩
      rcases List.mem_cons.mp hz with w | w
      · rw [w]
        exact Du.re (l' := T) ha.ln ha.uu (fun m hm => (hku m hm).1) (fun s hs => ha.1.lt (iuu s hs)) G nl5 (by omega) (fun x hx => by rw [hT]; exact List.mem_append_left _ hx) (fun x hx => by
          rw [hT]
          cases T with
          | nil => exact absurd hx (by simp)
          | cons a T => exact List.mem_append_left _ hx) (fun m hm => (hku m hm).2) fun s _ => sav s
      · have : z = v' := List.mem_singleton.mp w
        rw [this, v1, v2]
        have hkid : ∀ (x : N_i V_W (h + 1)) (l : List (N_i V_W (h + 1))), x ∈ l → (∀ m ∈ V_nk (h + 1) l, (m : Int) < B_cn i ∧ B_nav (fun k q => (B_kA (V_n u.1) k q ∨ B_kA (V_n v.1) k q) ∨ B_mA (V_n v.1) k q ∨ B_mA n k q) m) → (∀ s ∈ V_us (h + 1) l, s ∈ us) → C_D S h (V_n x.1) x.2 → C_D S5 h (V_n x.1) x.2 := fun x l hx h1 h2 hC => hC.ag ha.ln ha.uu (fun m hm => (h1 m (List.mem_flatMap.mpr ⟨x, hx, hm⟩)).1) (fun s hs => ha.1.lt (h2 s (List.mem_append_right _ (List.mem_flatMap.mpr ⟨x, hx, hs⟩)))) G (fun m hm => (h1 m (List.mem_flatMap.mpr ⟨x, hx, hm⟩)).2) fun s _ => sav s
        refine C_D_s.mpr ⟨nr5, ?_, fun x hx => ?_, fun x hx => ?_⟩
        · rw [List.length_cons, V_hd_len]
          omega
        · have hx : x ∈ V_hd (h + 1) v.1 v.2 := hx
          rw [hhd] at hx
          rcases List.mem_cons.mp hx with g | g
          · rw [g]
            exact (d3 v hvt).ag ha.uu (uin _ hvu) G (sav _)
          · have hxt : x ∈ v.2.tail := by rw [hz0]; exact g
            have hxu : V_s x.1 ∈ V_us (h + 1) v.2 := List.mem_append_left _ (List.mem_map.mpr ⟨x, hxt, rfl⟩)
            exact (Dv.2.2.1 x hxt).ag ha.uu (ha.1.lt (ivu _ hxu)) G (sav _)
        · rcases List.mem_cons.mp hx with g | g
          · rw [g]
            exact hkid y u.2 hym hku iuu (Du.2.2.2 y hym)
          · rw [hhd] at g
            rcases List.mem_cons.mp g with g | g
            · rw [g]
              have hm0 : z0 ∈ v.2 := by rw [hz0]; exact List.mem_cons_self
              exact hkid z0 v.2 hm0 hkv2 ivu (Dv.2.2.2 z0 hm0)
            · have hm0 : x ∈ v.2 := by rw [hz0]; exact List.mem_cons_of_mem _ g
              exact hkid x v.2 hm0 hkv2 ivu (Dv.2.2.2 x hm0)
end CTL
