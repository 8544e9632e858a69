/-! TREES OF THE CLASS: an entry comes, from its leaf up -/
section CUPP
variable {d t : Nat} {w1 w2 : Int} {sg : Nat} {e : I_E}
theorem V_er_pi {w1 w2 : Int} (e : V_W) (l : List (N_i V_W 0)) : (N_pi l (N_pl (V_c w1 w2) e (N_es l)) e).map (V_er 0) = N_pi (l.map (V_er 0)) (N_pl (I_c w1 w2) (V_e e) (N_es (l.map (V_er 0)))) (V_e e) := by
  have h1 : N_pl (I_c w1 w2) (V_e e) (N_es (l.map (V_er 0))) = N_pl (V_c w1 w2) e (N_es l) := V_er_pl e l
  rw [h1]
  unfold N_pi
  rw [List.map_append, List.map_cons, List.map_take, List.map_drop]
  rfl
theorem V_er_spl {h : Nat} {lp : List (N_i V_W h)} {y : N_i V_W h} {r : List (N_i V_W h)} (hl : 8 < lp.length) (hd : lp.drop 4 = y :: r) : N_spl h (lp.map (V_er h)) = ((lp.take 4).map (V_er h), some (N_mk h (V_e (N_f h y)) ((lp.drop 4).map (V_er h)))) := by
  unfold N_spl
  rw [if_neg (by rw [List.length_map]; omega), ← List.map_take, ← List.map_drop, hd]
  show _ = (_, some (V_e (N_f h y), _))
  rw [← V_er_f]
  rfl
theorem C_way_1 {cW : V_W → V_W → Int} {eW : V_W} {S : B_S} {h lv n : Nat} {l : List (N_i V_W h)} (hw : C_way cW eW S h lv n l) : S.2.1 10 lv = n := by
  cases h with
  | zero => exact hw
  | succ h => exact hw.1
theorem V_us_cutl {h : Nat} {l : List (N_i V_W h)} {y : N_i V_W h} {r : List (N_i V_W h)} (hd : l.drop 4 = y :: r) : (V_us h (l.take 4)).length + (V_us h (l.drop 4)).length + (if h = 0 then 0 else 1) = (V_us h l).length := by
  cases h with
  | zero =>
    rw [V_us0_cut l, List.length_append, if_pos rfl]
    exact Nat.add_zero _
  | succ h =>
    have := (V_us_cut hd).length_eq
    rw [List.length_cons, List.length_append] at this
    rw [if_neg (by omega), this]
theorem V_ns_cutl (h n nr : Nat) (l : List (N_i V_W h)) : (V_ns h n (l.take 4)).length + (V_ns h nr (l.drop 4)).length = (V_ns h n l).length + 1 := by
  rw [V_ns_e, V_ns_e, V_ns_e, V_nk_cut h l, List.length_cons, List.length_cons, List.length_cons, List.length_append]
  omega
/-- a child becomes another one -/
theorem C_D.sw {S S1 : B_S} {A2 : Nat → Int → Prop} {G : Int → Prop} {N U N1 : Int} {h n : Nat} {A B : List (N_i V_W (h + 1))} {x y : N_i V_W (h + 1)} (hD : C_D S (h + 1) n (A ++ x :: B)) (hN : B_ln S N) (hU : B_us S U) (hn : (n : Int) < N) (h1 : ∀ m, m ∈ V_nk (h + 1) A ∨ m ∈ V_nk (h + 1) B → (m : Int) < N ∧ B_nav A2 m) (h2 : ∀ s, s ∈ V_ts h (A ++ x :: B) ∨ s ∈ V_uk h A ∨ s ∈ V_uk h B → (s : Int) < U ∧ B_sav A2 s) (g : B_ag A2 G S S1) (hnn : B_nav A2 n) (hy : y.1 = x.1) (hy2 : C_D S1 h (V_n x.1) y.2) : C_D S1 (h + 1) n (A ++ y :: B) := by
  obtain ⟨d1, d2, d3, d4⟩ := C_D_s.mp hD
  have hmap : (A ++ y :: B).map (V_k (h + 1)) = (A ++ x :: B).map (V_k (h + 1)) := by
    have : V_k (h + 1) y = V_k (h + 1) x := by
      show V_n y.1 = V_n x.1
      rw [hy]
    rw [List.map_append, List.map_append, List.map_cons, List.map_cons, this]
  refine C_D_s.mpr ⟨?_, ?_, fun z hz => ?_, fun z hz => ?_⟩
  · rw [hmap, V_ts_m h A (x := x) B (by rw [hy])]
    exact d1.ag hN hn (by rw [List.length_map]; exact d2) (by rw [V_ts_len]; omega) g hnn.1 hnn.2.1 hnn.2.2
  · rw [List.length_append, List.length_cons] at d2 ⊢
    exact d2
  · have hc : (z ∈ (A ++ x :: B).tail) ∨ (x ∈ (A ++ x :: B).tail ∧ z = y) := by
      cases A with
      | nil => exact Or.inl hz
      | cons a A =>
        rcases List.mem_append.mp (show z ∈ A ++ y :: B from hz) with g | g
        · exact Or.inl (List.mem_append_left _ g)
        · rcases List.mem_cons.mp g with g | g
          · exact Or.inr ⟨List.mem_append_right _ List.mem_cons_self, g⟩
          · exact Or.inl (List.mem_append_right _ (List.mem_cons_of_mem _ g))
    have hk : ∀ w, w ∈ (A ++ x :: B).tail → B_eg S1 (V_s w.1) (V_e w.1) := fun w hw => by
      obtain ⟨u1, u2⟩ := h2 (V_s w.1) (Or.inl (List.mem_map.mpr ⟨w, hw, rfl⟩))
      exact (d3 w hw).ag hU u1 g u2
    rcases hc with c | ⟨c1, c2⟩
    · exact hk z c
    · rw [c2, hy]
      exact hk x c1
  · have hk : ∀ w, w ∈ A ∨ w ∈ B → C_D S1 h (V_n w.1) w.2 := fun w hw => by
      have hm : w ∈ A ++ x :: B := hw.elim (fun z => List.mem_append_left _ z) fun z => List.mem_append_right _ (List.mem_cons_of_mem _ z)
      have m1 : ∀ m ∈ V_ns h (V_n w.1) w.2, m ∈ V_nk (h + 1) A ∨ m ∈ V_nk (h + 1) B := fun m hm => hw.elim (fun z => Or.inl (List.mem_flatMap.mpr ⟨w, z, hm⟩)) fun z => Or.inr (List.mem_flatMap.mpr ⟨w, z, hm⟩)
      have m2 : ∀ s ∈ V_us h w.2, s ∈ V_uk h A ∨ s ∈ V_uk h B := fun s hs => hw.elim (fun z => Or.inl (List.mem_flatMap.mpr ⟨w, z, hs⟩)) fun z => Or.inr (List.mem_flatMap.mpr ⟨w, z, hs⟩)
      exact (d4 w hm).ag hN hU (fun m hm => (h1 m (m1 m hm)).1) (fun s hs => (h2 s (Or.inr (m2 s hs))).1) g (fun m hm => (h1 m (m1 m hm)).2) fun s hs => (h2 s (Or.inr (m2 s hs))).2
    rcases List.mem_append.mp hz with c | c
    · exact hk z (Or.inl c)
    · rcases List.mem_cons.mp c with c | c
      · rw [c, hy]
        exact hy2
      · exact hk z (Or.inr c)
theorem c_up {Q : g_M → Prop} {a1 : Nat} {v2 v3 v4 : Int} (hv2 : g_InR v2) (hv3 : g_InR v3) (hv4 : g_InR v4) : ∀ (h lv n : Nat) (l : List (N_i V_W h)) (S : B_S) (M : g_M) (j i : Nat) (FS us FN ns R R' : List Nat), B_t t S M → B_all S j i FS us FN ns w1 w2 → C_D S h n l → N_fl h l → (0 < h → l ≠ []) → l.length ≤ 8 → us.Perm (sg :: V_us h l ++ R) → ns.Perm (V_ns h n l ++ R') → S.2.2 18 = sg → B_eg S sg e → C_way (V_c w1 w2) ((sg, 0), e) S h lv n l → lv + h ≤ 13 → us.length < 1360 → ns.length + h < 450 → (0 ≤ S.2.2 15 ∧ S.2.2 15 ≤ 2000) → (0 ≤ S.2.2 16 ∧ S.2.2 16 + h ≤ 990) → (0 ≤ S.2.2 17 ∧ S.2.2 17 + h ≤ 990) → (∀ (S1 : B_S) (M1 : g_M) (lp : List (N_i V_W h)) (sg1 j1 i1 : Nat) (FS1 us1 FN1 ns1 : List Nat), B_t t S1 M1 → B_Fc t j i j1 i1 M M1 → B_ag (V_A R' R) V_GC S S1 → B_all S1 j1 i1 FS1 us1 FN1 ns1 w1 w2 → C_D S1 h n lp → us1.Perm (sg1 :: V_us h lp ++ R) → ns1.Perm (V_ns h n lp ++ R') → lp.map (V_er h) = N_pre (I_c w1 w2) e h (l.map (V_er h)) → S1.2.2 18 = sg1 → S1.2.2 15 = S.2.2 15 + 1 → S1.2.2 16 + N_lv h l = S.2.2 16 + N_lv h lp → S1.2.2 17 + ns.length = S.2.2 17 + ns1.length → us1.length ≤ us.length + 1 + (if h = 0 then 0 else 1) → ns.length ≤ ns1.length → ns1.length ≤ ns.length + h → N_lv h l ≤ N_lv h lp → N_lv h lp ≤ N_lv h l + h → (lp.length ≤ 8 → Q M1) ∧ (8 < lp.length → g_Run (d + 47) 183 110 [(0, .ref t), (1, .ref a1), (2, g_n v2), (3, g_n v3), (4, g_n v4), (5, g_n (lv + h : Nat)), (6, g_n (V_lf (V_c w1 w2) ((sg, 0), e) h n l).1), (7, g_n (N_pl (V_c w1 w2) ((sg, 0), e) (N_es (V_lf (V_c w1 w2) ((sg, 0), e) h n l).2))), (8, g_n lv)] [] M1 (g_qV Q))) → g_Run (d + 47) 183 76 [(0, .ref t), (1, .ref a1), (2, g_n v2), (3, g_n v3), (4, g_n v4), (5, g_n (lv + h : Nat)), (6, g_n (V_lf (V_c w1 w2) ((sg, 0), e) h n l).1), (7, g_n (N_pl (V_c w1 w2) ((sg, 0), e) (N_es (V_lf (V_c w1 w2) ((sg, 0), e) h n l).2)))] [] M (g_qV Q) := by
  intro h
  induction h with
  | zero =>
    intro lv n l S M j i FS us FN ns R R' hB ha hD hf hne hl8 hpu hpn h18 he hw hlv hu hnl h15 h16 h17 hK
    change g_Run (d + 47) 183 76 [(0, .ref t), (1, .ref a1), (2, g_n v2), (3, g_n v3), (4, g_n v4), (5, g_n (lv + 0 : Nat)), (6, g_n n), (7, g_n (N_pl (V_c w1 w2) ((sg, 0), e) (N_es l)))] [] M (g_qV Q)
    obtain ⟨p, hp⟩ : ∃ p, p = N_pl (V_c w1 w2) ((sg, 0), e) (N_es l) := ⟨_, rfl⟩
    have hple : p ≤ l.length := by rw [hp]; exact (N_pl_spec (c := V_c w1 w2) ((sg, 0), e) (N_es l)).1
    have hnm : n ∈ ns := hpn.mem_iff.mpr (List.mem_append_left _ (V_ns_m 0 n l))
    have hn := ha.2.1.lt hnm
    have hsgm : sg ∈ us := hpu.mem_iff.mpr (List.mem_append_left _ List.mem_cons_self)
    have hsgl := ha.1.lt hsgm
    have hcs := B_cs_le ⟨j, by have := ha.1.1.2.2.2; omega⟩
    have hcn := B_cn_le ⟨i, by have := ha.2.1.1.2.2.2.2.2; omega⟩
    simp only at hcs hcn
    have hv5 : g_InR ((lv + 0 : Nat) : Int) := ⟨by omega, by omega⟩
    have hv6 : g_InR (n : Int) := ⟨by omega, by omega⟩
    have hv7 : g_InR (p : Int) := ⟨by omega, by omega⟩
    obtain ⟨no1, d2⟩ := hD.no
    have hus : ∀ s ∈ V_us 0 l, s ∈ us := fun s hs => hpu.mem_iff.mpr (List.mem_append_left _ (List.mem_cons_of_mem _ hs))
    have hks : l.map (V_k 0) = (l.take p).map (V_k 0) ++ (l.drop p).map (V_k 0) := by rw [← List.map_append, List.take_append_drop]
    have hlt : ((l.take p).map (V_k 0)).length = p := by rw [List.length_map, List.length_take]; omega
    rw [hks] at no1
    rw [← hp]
    refine s_X10_comes_76 hv2 hv3 hv4 hv5 hv6 hv7 fun _ => ⟨hB.1, ?_⟩
    rw [hB.2.1 18, h18]
    have hq1 := c_insertKid (d := d + 46) (N := B_cn i) (k := sg) (Q := fun M2 => g_ext M M2 → g_ok M2 → g_Call (d + 47) 174 [.ref t] M2 (g_qI fun r8 M5 => g_ext M2 M5 → g_ok M5 → g_InR r8 → (∀ M10, M10 = g_wi M5 t 18 r8 → g_ok M10 → g_InR ((g_i M10 t 15) + 1) ∧ (∀ M15, M15 = g_wi M10 t 15 ((g_i M10 t 15) + 1) → g_ok M15 → g_Run (d + 47) 183 110 [(0, .ref t), (1, .ref a1), (2, g_n v2), (3, g_n v3), (4, g_n v4), (5, g_n (lv + 0 : Nat)), (6, g_n n), (7, g_n p), (8, g_n (lv + 0 : Nat))] [] M15 (g_qV Q))))) hB ha.ln hn no1 (by rw [← List.map_append, List.take_append_drop, List.length_map]; exact hl8) (by omega) (Nat.zero_le _) fun S2 M2 t2 f2 g2 e2 no2 => by
      intro _ _
      have a2 := ha.ag g2 e2 (fun q z => by rcases z with ⟨z, -⟩ | ⟨z, -⟩ <;> omega) (fun q z => by rcases z with ⟨z, -⟩ | ⟨z, -⟩ <;> omega) (fun z => z) (fun z => z) (fun z => z) fun z => z
      refine c_newSlotA (d := d + 45) t2 a2 (by omega) fun sg1 j1 FS1 S3 M5 t3 f3 g3 a3 _ => ?_
      intro _ _ _ M10 e10 _
      obtain ⟨t4, f4⟩ := t3.fld 18 (sg1 : Int)
      rw [← e10] at t4 f4
      have h15' : g_i M10 t 15 = S.2.2 15 := by rw [t4.2.1 15, B_fld_v, if_neg (by decide), g3.2.2 15 (by decide), g2.2.2 15 fun z => z]
      rw [h15']
      refine ⟨⟨by omega, by omega⟩, fun M15 e15 _ => ?_⟩
      obtain ⟨t5, f5⟩ := t4.fld 15 (S.2.2 15 + 1)
      rw [← e15] at t5 f5
      obtain ⟨S5, hS5⟩ : ∃ S5, S5 = B_fld (B_fld S3 18 sg1) 15 (S.2.2 15 + 1) := ⟨_, rfl⟩
      rw [← hS5] at t5
      have g5 : B_ag (fun _ _ => False) (fun k => k = 15 ∨ k = 18) S3 S5 := by
        rw [hS5]
        exact (B_ag.fld _ _ _ _ _ (Or.inr rfl)).tr (B_ag.fld _ _ _ _ _ (Or.inl rfl))
      have a5 : B_all S5 j1 i FS1 (sg1 :: us) FN ns w1 w2 := a3.ag g5 (by rw [hS5]; rfl) (fun _ z => z) (fun _ z => z) (by decide) (by decide) (by decide) (by decide)
      have G : B_ag (fun k q => B_kA n k q ∨ k = 2) V_GC S S5 := ((g2.up (fun k q z => Or.inl z) fun k z => z.elim).tr (g3.up (fun k q z => Or.inr z) fun k z => Or.inl (Or.inl z))).tr (g5.up (fun k q z => z.elim) fun k z => Or.inr z)
      have nav : ∀ m, m ≠ n → B_nav (fun k q => B_kA n k q ∨ k = 2) m := fun m hm => by
        obtain ⟨b1, b2, b3⟩ := B_kA_nav hm
        exact ⟨fun q q1 q2 => ⟨fun z => z.elim (b1 q q1 q2).1 fun z => by omega, fun z => z.elim (b1 q q1 q2).2 fun z => by omega⟩, fun z => z.elim b2 fun z => by omega, fun z => z.elim b3 fun z => by omega⟩
      have sav : ∀ s, B_sav (fun k q => B_kA n k q ∨ k = 2) s := fun s => by
        obtain ⟨b1, b2⟩ := B_kA_sav n s
        exact ⟨fun q q1 q2 z => z.elim (b1 q q1 q2) fun z => by omega, fun z => z.elim b2 fun z => by omega⟩
      have way : ∀ q : Int, ¬ (B_kA n 10 q ∨ (10 : Nat) = 2) ∧ ¬ (B_kA n 11 q ∨ (11 : Nat) = 2) := fun q => by
        constructor
        · rintro (z | z)
          · rcases z with ⟨z, -⟩ | ⟨z, -⟩ <;> omega
          · omega
        · rintro (z | z)
          · rcases z with ⟨z, -⟩ | ⟨z, -⟩ <;> omega
          · omega
      have hlp : ((N_pi l p ((sg, 0), e)).map (V_k 0)) = (l.take p).map (V_k 0) ++ sg :: (l.drop p).map (V_k 0) := by
        unfold N_pi
        rw [List.map_append, List.map_cons]
        rfl
      have hlpl : (N_pi l p ((sg, 0), e)).length = l.length + 1 := by
        unfold N_pi
        rw [List.length_append, List.length_cons, List.length_take, List.length_drop]
        omega
      have no5 : B_no S5 n 1 ((N_pi l p ((sg, 0), e)).map (V_k 0)) [] := by
        rw [hlp]
        have h3 := no2.ag a2.ln (by have := a2.2.1.lt hnm; exact this) (by rw [List.length_append, List.length_cons, List.length_map, List.length_map, List.length_take, List.length_drop]; omega) (Nat.zero_le _) g3 (B_2_nav n).1 (B_2_nav n).2.1 (B_2_nav n).2.2
        exact h3.ag a3.ln (a3.2.1.lt hnm) (by rw [List.length_append, List.length_cons, List.length_map, List.length_map, List.length_take, List.length_drop]; omega) (Nat.zero_le _) g5 (fun _ _ _ => ⟨fun z => z, fun z => z⟩) (fun z => z) fun z => z
      have hall : ∀ x ∈ N_pi l p ((sg, 0), e), x ∈ l ∨ x = (((sg, 0), e) : V_W) := fun x hx => by
        unfold N_pi at hx
        rcases List.mem_append.mp hx with g | g
        · exact Or.inl (List.mem_of_mem_take g)
        · rcases List.mem_cons.mp g with g | g
          · exact Or.inr g
          · exact Or.inl (List.mem_of_mem_drop g)
      have hD5 : C_D S5 0 n (N_pi l p ((sg, 0), e)) := C_D_0.mpr ⟨no5, by rw [hlpl]; omega, fun x hx => by
        rcases hall x hx with g | g
        · have hm : V_k 0 x ∈ V_us 0 l := List.mem_map.mpr ⟨x, g, rfl⟩
          exact (hD.2.2 x g).ag ha.uu (ha.1.lt (hus _ hm)) G (sav _)
        · rw [g]
          exact he.ag ha.uu hsgl G (sav sg)⟩
      have hRn : ∀ m ∈ R', m ≠ n := fun m hm z => (List.nodup_append.mp ((hpn.nodup_iff).mp ha.2.1.nd)).2.2 n (V_ns_m 0 n l) m hm z.symm
      have hfin := hK S5 M15 (N_pi l p ((sg, 0), e)) sg1 j1 i FS1 (sg1 :: us) FN ns t5 ((f2.c j i).tr (f3.tr ((f4.tr0 f5).c j1 i))) (G.up (V_A.of (fun m hm => nav m (hRn m hm)) (fun s _ => sav s) way) fun k z => z) a5 hD5 (by
        refine (List.Perm.cons sg1 hpu).trans (List.perm_iff_count.mpr fun a => ?_)
        rw [V_us_0, V_us_0, hlp, hks]
        simp only [List.count_append, List.count_cons]
        omega) hpn (by rw [hp]; exact V_er_pi ((sg, 0), e) l) (by rw [hS5, B_fld_v, if_neg (by decide), B_fld_v, if_pos rfl]) (by rw [hS5, B_fld_v, if_pos rfl]) (by
        rw [g5.2.2 16 (by decide), g3.2.2 16 (by decide), g2.2.2 16 fun z => z]
        rfl) (by rw [g5.2.2 17 (by decide), g3.2.2 17 (by decide), g2.2.2 17 fun z => z]) (by rw [List.length_cons, if_pos rfl]; omega) (Nat.le_refl _) (by omega) (Nat.le_refl _) (Nat.le_refl _)
      change (_ → Q M15) ∧ (_ → g_Run (d + 47) 183 110 [(0, .ref t), (1, .ref a1), (2, g_n v2), (3, g_n v3), (4, g_n v4), (5, g_n (lv + 0 : Nat)), (6, g_n n), (7, g_n (N_pl (V_c w1 w2) ((sg, 0), e) (N_es l))), (8, g_n lv)] [] M15 (g_qV Q)) at hfin
      rw [← hp] at hfin
      exact c_lp hv2 hv3 hv4 hv5 hv6 hv7 t5 a5 hD5 hnm (by
        show S5.2.1 10 (lv : Int) = n
        rw [g5.2.1 10 lv (fun z => z) (by omega) (by have := a3.2.2.2.1; omega), g3.2.1 10 lv (fun z => absurd (show (10 : Nat) = 2 from z) (by decide)) (by omega) (by have := a2.2.2.2.1; omega), g2.2.1 10 lv (fun z => by rcases z with ⟨z, -⟩ | ⟨z, -⟩ <;> omega) (by omega) (by have := ha.2.2.2.1; omega)]
        exact hw) (by omega) hfin
    rw [hlt] at hq1
    exact hq1
  | succ h ih =>
    intro lv n l S M j i FS us FN ns R R' hB ha hD hf hne hl8 hpu hpn h18 he hw hlv hu hnl h15 h16 h17 hK
    obtain ⟨A, x, B, hs, hA⟩ := N_dn_split (V_c w1 w2) ((sg, 0), e) (hne (by omega))
    obtain ⟨hw1, hw2⟩ := hw
    obtain ⟨hw3, hw4⟩ := hw2 A x B hs hA
    subst hs
    rw [V_lf_s hA] at hK ⊢
    rw [show lv + (h + 1) = lv + 1 + h by omega] at hK ⊢
    have hxm : x ∈ A ++ x :: B := List.mem_append_right _ List.mem_cons_self
    obtain ⟨⟨fx1, fx2⟩, fx⟩ := N_fl_s.mp hf x hxm
    have hxne : 0 < h → x.2 ≠ [] := fun _ z => by rw [z, List.length_nil] at fx1; omega
    have hxne2 : 0 < h → x.2.map (V_er h) ≠ [] := fun z w => hxne z (List.map_eq_nil_iff.mp w)
    obtain ⟨R2, hR2⟩ : ∃ R2, R2 = V_ts h (A ++ x :: B) ++ (V_uk h A ++ V_uk h B) ++ R := ⟨_, rfl⟩
    obtain ⟨R3, hR3⟩ : ∃ R3, R3 = n :: (V_nk (h + 1) A ++ V_nk (h + 1) B) ++ R' := ⟨_, rfl⟩
    have hpu2 : us.Perm (sg :: V_us h x.2 ++ R2) := hpu.trans (List.perm_iff_count.mpr fun a => by
      rw [V_us_k, V_uk_app, V_uk_c, hR2]
      simp only [List.count_append, List.count_cons]
      omega)
    have hpn2 : ns.Perm (V_ns h (V_n x.1) x.2 ++ R3) := hpn.trans (List.perm_iff_count.mpr fun a => by
      rw [V_ns_e (h + 1), V_nk_app, V_nk_c, hR3]
      simp only [List.count_append, List.count_cons]
      omega)
    have hl8' : A.length + (B.length + 1) ≤ 8 := by
      rw [List.length_append, List.length_cons] at hl8
      exact hl8
    have hdn : (A.map (V_er (h + 1))).length = N_dn (I_c w1 w2) e h (A.map (V_er (h + 1)) ++ V_er (h + 1) x :: B.map (V_er (h + 1))) := by
      have := V_er_dn (w1 := w1) (w2 := w2) ((sg, 0), e) h (A ++ x :: B)
      rw [List.map_append, List.map_cons] at this
      rw [List.length_map, hA]
      exact this.symm
    have hpre : N_pre (I_c w1 w2) e (h + 1) ((A ++ x :: B).map (V_er (h + 1))) = N_ca (A.map (V_er (h + 1))) (V_er (h + 1) x) (N_spl h (N_pre (I_c w1 w2) e h (x.2.map (V_er h)))) (B.map (V_er (h + 1))) := by
      rw [List.map_append, List.map_cons, N_pre_s _ e hdn, V_er_s, N_mk_2, N_come_pre _ e hxne2]
    refine ih (lv + 1) (V_n x.1) x.2 S M j i FS us FN ns R2 R3 hB ha (hD.2.2.2 x hxm) fx hxne fx2 hpu2 hpn2 h18 he hw4 (by omega) hu (by omega) h15 (by omega) (by omega) fun S1 M1 lp sg1 j1 i1 FS1 us1 FN1 ns1 t1 f1 g1 a1 D1 pu1 pn1 er1 k18 k15 k16 k17 lu ln1 ln2 lv1 lv2 => ?_
    obtain ⟨y0, hy0⟩ : ∃ y0, y0 = N_mk h x.1 lp := ⟨_, rfl⟩
    have e1 : y0.1 = x.1 := by rw [hy0]; rfl
    have e2 : y0.2 = lp := by rw [hy0]; rfl
    have hR2u : ∀ s ∈ R2, s ∈ us := fun s hs => hpu2.mem_iff.mpr (List.mem_append_right _ hs)
    have hR3n : ∀ m ∈ R3, m ∈ ns := fun m hm => hpn2.mem_iff.mpr (List.mem_append_right _ hm)
    have hnR : n ∈ R3 := by rw [hR3]; exact List.mem_cons_self
    have hRR3 : ∀ m ∈ R', m ∈ R3 := fun m hm => by rw [hR3]; exact List.mem_append_right _ hm
    have hRR2 : ∀ s ∈ R, s ∈ R2 := fun s hs => by rw [hR2]; exact List.mem_append_right _ hs
    have D2 : C_D S1 (h + 1) n (A ++ y0 :: B) := hD.sw ha.ln ha.uu (ha.2.1.lt (hR3n n hnR)) (N1 := 0) (fun m hm => by
      have : m ∈ R3 := by
        rw [hR3]
        exact List.mem_append_left _ (List.mem_cons_of_mem _ (List.mem_append.mpr hm))
      exact ⟨ha.2.1.lt (hR3n m this), V_A.nav this⟩) (fun s hs => by
      have : s ∈ R2 := by
        rw [hR2]
        refine List.mem_append_left _ ?_
        rcases hs with z | z
        · exact List.mem_append_left _ z
        · exact List.mem_append_right _ (List.mem_append.mpr z)
      exact ⟨ha.1.lt (hR2u s this), V_A.sav this⟩) g1 (V_A.nav hnR) e1 (by rw [e2]; exact D1)
    have hto : V_ts h (A ++ y0 :: B) = V_ts h (A ++ x :: B) := V_ts_m h A B (by rw [e1])
    have pu2 : us1.Perm (V_us (h + 1) (A ++ y0 :: B) ++ (sg1 :: R)) := pu1.trans (List.perm_iff_count.mpr fun a => by
      rw [V_us_k, V_uk_app, V_uk_c, e2, hto, hR2]
      simp only [List.count_append, List.count_cons]
      omega)
    have pn2 : ns1.Perm (V_ns (h + 1) n (A ++ y0 :: B) ++ R') := pn1.trans (List.perm_iff_count.mpr fun a => by
      rw [V_ns_e (h + 1), V_nk_app, V_nk_c, e1, e2, hR3]
      simp only [List.count_append, List.count_cons]
      omega)
    have y10 := ha.2.2.2.1
    have y11 := ha.2.2.2.2
    have wy : ∀ (q : Int), 0 ≤ q → q < 16 → S1.2.1 10 q = S.2.1 10 q ∧ S1.2.1 11 q = S.2.1 11 q := fun q q1 q2 => ⟨g1.2.1 10 q (fun z => z.1 rfl) q1 (by omega), g1.2.1 11 q (fun z => z.2.1 rfl) q1 (by omega)⟩
    have hW1 : S1.2.1 10 lv = n := by rw [(wy lv (by omega) (by omega)).1]; exact hw1
    have hW2 : S1.2.1 11 lv = A.length := by rw [(wy lv (by omega) (by omega)).2]; exact hw3
    have hW3 : S1.2.1 10 ((lv : Int) + 1) = V_n x.1 := by
      rw [(wy _ (by omega) (by omega)).1]
      have := C_way_1 hw4
      rwa [show ((lv + 1 : Nat) : Int) = (lv : Int) + 1 by omega] at this
    have hnm1 : n ∈ ns1 := pn2.mem_iff.mpr (List.mem_append_left _ (V_ns_m (h + 1) n _))
    have hcn1 : n ∈ ns := hR3n n hnR
    have hlvA : ∀ z : N_i V_W (h + 1), N_lv (h + 1) (A ++ z :: B) = N_lv (h + 1) A + (N_lv h z.2 + N_lv (h + 1) B) := fun z => by rw [N_lv_app, N_lv_c]
    have gR : B_ag (V_A R' R) V_GC S S1 := g1.up (V_A.sub hRR3 hRR2) fun k z => z
    obtain ⟨lf, hlf⟩ : ∃ lf, lf = V_lf (V_c w1 w2) ((sg, 0), e) h (V_n x.1) x.2 := ⟨_, rfl⟩
    rw [← hlf] at hK ⊢
    have hcw := V_lf_D (hD.2.2.2 x hxm) fx hxne hw4
    rw [← hlf] at hcw
    have hcn := B_cn_le ⟨i, by have := ha.2.1.1.2.2.2.2.2; omega⟩
    have hcn2 := B_cn_le ⟨i1, by have := a1.2.1.1.2.2.2.2.2; omega⟩
    simp only at hcn hcn2
    have hlfl := ha.2.1.lt (hpn2.mem_iff.mpr (List.mem_append_left _ hcw.2.1))
    have hple : N_pl (V_c w1 w2) ((sg, 0), e) (N_es lf.2) ≤ lf.2.length := (N_pl_spec (c := V_c w1 w2) ((sg, 0), e) (N_es lf.2)).1
    have hl9 : lf.2.length ≤ 9 := hcw.1.2.1
    have hv5 : g_InR ((lv + 1 + h : Nat) : Int) := ⟨by omega, by omega⟩
    have hv6 : g_InR (lf.1 : Int) := ⟨by omega, by omega⟩
    have hv7 : g_InR ((N_pl (V_c w1 w2) ((sg, 0), e) (N_es lf.2) : Nat) : Int) := ⟨by omega, by omega⟩
    refine ⟨fun g8 => ?_, fun g8 => ?_⟩
    · -- no node above is split
      refine (hK S1 M1 (A ++ y0 :: B) sg1 j1 i1 FS1 us1 FN1 ns1 t1 f1 gR a1 D2 (pu2.trans (List.perm_iff_count.mpr fun a => by
        simp only [List.count_append, List.count_cons]
        omega)) pn2 ?_ k18 k15 ?_ k17 ?_ ln1 (by omega) ?_ ?_).1 ?_
      · rw [hpre, ← er1, N_spl_n (by rw [List.length_map]; exact g8)]
        unfold N_ca
        rw [List.map_append, List.map_cons, hy0, V_er_mk]
        rfl
      · rw [hlvA, hlvA, e2]
        omega
      · rw [if_neg (by omega)]
        split at lu <;> omega
      · rw [hlvA, hlvA, e2]
        omega
      · rw [hlvA, hlvA, e2]
        omega
      · rw [List.length_append, List.length_cons]
        exact hl8'
    · -- the child is split
      have hlp9 : lp.length = 9 := by
        have := D1.no.2
        omega
      have hnm3 : V_n x.1 ∈ ns1 := pn1.mem_iff.mpr (List.mem_append_left _ (V_ns_m h _ _))
      have hnl3 := a1.2.1.lt hnm3
      obtain ⟨⟨b1, b2, b3, b4⟩, -⟩ := D1.no
      rw [List.length_map, hlp9] at b2
      obtain ⟨l4, l5, l6, l7, lN⟩ := a1.ln
      obtain ⟨cn, c1, c2, c3⟩ := t1.at (k := 6) (by decide)
      obtain ⟨wn, p1, p2, p3⟩ := t1.at (k := 10) (by decide)
      have c2 : g_A M1 cn 1 (S1.1 6) := c2
      have p2 : g_A M1 wn 1 (S1.1 10) := p2
      have z10 := a1.2.2.2.1
      rw [show ((lv + 1 : Nat) : Int) = (lv : Int) + 1 by omega]
      refine s_X10_comes_110 hv2 hv3 hv4 hv5 hv6 hv7 ⟨by omega, by omega⟩ fun _ => ⟨fun z => absurd z (by omega), fun _ => ⟨t1.1, cn, c1, wn, p1, S1.1 10, p2, ⟨by omega, by omega⟩, ?_⟩⟩
      rw [p3 _ (by omega) (by omega), hW3]
      refine ⟨S1.1 6, c2, ⟨by omega, by omega⟩, ?_⟩
      rw [c3 _ (by omega) (by omega), b2]
      refine ⟨fun _ => ?_, fun z => absurd z (by decide)⟩
      have k16b : N_lv h x.2 ≤ N_lv h lp := lv1
      refine c_splitP (d := d + 1) (x := y0) (R := sg1 :: R) t1 a1 D2 (by rw [e2]; exact hlp9) (by rw [List.length_append, List.length_cons]; exact hl8') pu2 pn2 hW1 hW2 (by rw [e1]; exact hW3) (by omega) (by split at lu <;> omega) (by omega) (by omega) (by omega) fun nr ms j2 i2 FS2 us2 FN2 ns2 S2 M2 y r hd t2 f2 g2 a2 pu3 pn3 D3 x17 x16 => ?_
      intro _ _
      rw [e2] at hd pu3 pn3 D3
      rw [show (lv : Int) + 1 + -1 = lv by omega]
      refine ⟨⟨by omega, by omega⟩, ?_⟩
      obtain ⟨l2, hl2⟩ : ∃ l2, l2 = A ++ N_mk h y0.1 (lp.take 4) :: N_mk h ((ms, nr), V_e (N_f h y)) (lp.drop 4) :: B := ⟨_, rfl⟩
      have hcl := N_lv_cut h lp
      have hf01 : 0 ≤ V_f h ∧ V_f h ≤ 1 := by
        unfold V_f
        split <;> decide
      have hlv2 : (N_lv (h + 1) l2 : Int) = N_lv (h + 1) (A ++ y0 :: B) + V_f h := by
        rw [hl2, N_lv_app, N_lv_c, N_lv_c, N_mk_2, N_mk_2, hlvA, e2]
        omega
      have hlv3 : (N_lv (h + 1) (A ++ y0 :: B) : Int) + N_lv h x.2 = N_lv (h + 1) (A ++ x :: B) + N_lv h lp := by
        rw [hlvA, hlvA, e2]
        omega
      have hus2 : us2.length + (if h = 0 then 0 else 1) = us1.length + 1 := by
        have q1 := pu3.length_eq
        have q2 := pu2.length_eq
        have q3 := V_us_cutl hd
        rw [V_us_k, V_uk_app, V_uk_c, V_uk_c, List.length_append, List.length_append, V_ts_len, List.length_append, List.length_append, List.length_append, List.length_append, List.length_cons, List.length_cons, List.length_cons] at q1
        rw [V_us_k, V_uk_app, V_uk_c, List.length_append, List.length_append, V_ts_len, List.length_append, List.length_append, List.length_append, List.length_cons, List.length_cons, e2] at q2
        rw [N_mk_2, N_mk_2] at q1
        by_cases hh : h = 0
        · rw [if_pos hh] at q3 ⊢
          omega
        · rw [if_neg hh] at q3 ⊢
          omega
      have hns2 : ns2.length = ns1.length + 1 := by
        have q1 := pn3.length_eq
        have q2 := pn2.length_eq
        have q3 := V_ns_cutl h (V_n y0.1) nr lp
        rw [V_ns_e (h + 1), V_nk_app, V_nk_c, V_nk_c] at q1
        rw [V_ns_e (h + 1), V_nk_app, V_nk_c, e2] at q2
        rw [List.length_append, List.length_cons, List.length_append, List.length_append, List.length_append] at q1
        rw [List.length_append, List.length_cons, List.length_append, List.length_append] at q2
        change _ = _ + ((V_ns h (V_n y0.1) (lp.take 4)).length + ((V_ns h nr (lp.drop 4)).length + _)) + 1 + _ at q1
        omega
      rw [← hl2] at pu3 pn3 D3
      have g12 : B_ag (V_A R' R) V_GC S S2 := gR.tr (g2.up (V_A.sub (fun m hm => hm) fun s hs => List.mem_cons_of_mem _ hs) fun k z => Or.inl z)
      have e18 : S2.2.2 18 = sg1 := by rw [g2.2.2 18 (by unfold V_G4; omega)]; exact k18
      have e15 : S2.2.2 15 = S.2.2 15 + 1 := by rw [g2.2.2 15 (by unfold V_G4; omega)]; exact k15
      have hfin := hK S2 M2 l2 sg1 j2 i2 FS2 us2 FN2 ns2 t2 (f1.tr f2) g12 a2 D3 (pu3.trans (List.perm_iff_count.mpr fun a => by
        simp only [List.count_append, List.count_cons]
        omega)) pn3 (by
        rw [hpre, ← er1, V_er_spl g8 hd, hl2]
        unfold N_ca
        rw [List.map_append, List.map_cons, List.map_cons, V_er_mk, V_er_mk, e1]
        rfl) e18 e15 (by omega) (by omega) (by
        rw [if_neg (by omega)]
        split at lu <;> split at hus2 <;> omega) (by omega) (by omega) (by omega) (by omega)
      refine c_lp hv2 hv3 hv4 hv5 hv6 hv7 t2 a2 D3 (pn3.mem_iff.mpr (List.mem_append_left _ (V_ns_m (h + 1) n _))) ?_ (by omega) hfin
      rw [g2.2.1 10 lv (fun z => z.1 rfl) (by omega) (by omega)]
      exact hW1
end CUPP
