/-! TREES OF THE CLASS: a child is split -/
section CSPP
variable {d t j i : Nat} {w1 w2 : Int} {FS us FN ns R R' : List Nat}
def V_uk (h : Nat) (l : List (N_i V_W (h + 1))) : List Nat := l.flatMap fun x => V_us h x.2
theorem V_us_k (h : Nat) (l : List (N_i V_W (h + 1))) : V_us (h + 1) l = V_ts h l ++ V_uk h l := rfl
theorem V_uk_app (h : Nat) (l t : List (N_i V_W (h + 1))) : V_uk h (l ++ t) = V_uk h l ++ V_uk h t := List.flatMap_append
theorem V_uk_c (h : Nat) (x : N_i V_W (h + 1)) (t : List (N_i V_W (h + 1))) : V_uk h (x :: t) = V_us h x.2 ++ V_uk h t := List.flatMap_cons
theorem V_nk_app (h : Nat) (l t : List (N_i V_W (h + 1))) : V_nk (h + 1) (l ++ t) = V_nk (h + 1) l ++ V_nk (h + 1) t := List.flatMap_append
theorem V_nk_c (h : Nat) (x : N_i V_W (h + 1)) (t : List (N_i V_W (h + 1))) : V_nk (h + 1) (x :: t) = V_ns h (V_n x.1) x.2 ++ V_nk (h + 1) t := List.flatMap_cons
/-- the marks of a node, cut behind a child -/
theorem V_ts_cut (h : Nat) (A : List (N_i V_W (h + 1))) (x : N_i V_W (h + 1)) (B : List (N_i V_W (h + 1))) : V_ts h (A ++ x :: B) = V_ts h (A ++ [x]) ++ B.map fun z => V_s z.1 := by
  unfold V_ts
  cases A with
  | nil => rfl
  | cons a A =>
    show (A ++ x :: B).map _ = (A ++ [x]).map _ ++ B.map _
    rw [← List.map_append, List.append_assoc]
    rfl
theorem V_ts_m (h : Nat) (A : List (N_i V_W (h + 1))) {x x2 : N_i V_W (h + 1)} (B : List (N_i V_W (h + 1))) (hx : V_s x2.1 = V_s x.1) : V_ts h (A ++ x2 :: B) = V_ts h (A ++ x :: B) := by
  unfold V_ts
  cases A with
  | nil => rfl
  | cons a A =>
    show (A ++ x2 :: B).map _ = (A ++ x :: B).map _
    rw [List.map_append, List.map_append, List.map_cons, List.map_cons, hx]
theorem c_splitP {Q : g_M → Prop} {h lv n : Nat} {A B : List (N_i V_W (h + 1))} {x : N_i V_W (h + 1)} {S : B_S} {M : g_M} (hB : B_t t S M) (ha : B_all S j i FS us FN ns w1 w2) (hD : C_D S (h + 1) n (A ++ x :: B)) (h9 : x.2.length = 9) (h8 : (A ++ x :: B).length ≤ 8) (hpu : us.Perm (V_us (h + 1) (A ++ x :: B) ++ R)) (hpn : ns.Perm (V_ns (h + 1) n (A ++ x :: B) ++ R')) (hw1 : S.2.1 10 lv = n) (hw2 : S.2.1 11 lv = A.length) (hw3 : S.2.1 10 ((lv : Int) + 1) = V_n x.1) (hlv : lv ≤ 14) (hu : us.length < 1369) (hnl : ns.length < 454) (h16 : 0 ≤ S.2.2 16 ∧ S.2.2 16 ≤ 1000) (h17 : 0 ≤ S.2.2 17 ∧ S.2.2 17 ≤ 1000) (hq : ∀ (nr ms j1 i1 : Nat) (FS1 us1 FN1 ns1 : List Nat) (S1 : B_S) (M1 : g_M) (y : N_i V_W h) (r : List (N_i V_W h)), x.2.drop 4 = y :: r → B_t t S1 M1 → B_Fc t j i j1 i1 M M1 → B_ag (V_A R' R) V_G4 S S1 → B_all S1 j1 i1 FS1 us1 FN1 ns1 w1 w2 → us1.Perm (V_us (h + 1) (A ++ N_mk h x.1 (x.2.take 4) :: N_mk h ((ms, nr), V_e (N_f h y)) (x.2.drop 4) :: B) ++ R) → ns1.Perm (V_ns (h + 1) n (A ++ N_mk h x.1 (x.2.take 4) :: N_mk h ((ms, nr), V_e (N_f h y)) (x.2.drop 4) :: B) ++ R') → C_D S1 (h + 1) n (A ++ N_mk h x.1 (x.2.take 4) :: N_mk h ((ms, nr), V_e (N_f h y)) (x.2.drop 4) :: B) → S1.2.2 17 = S.2.2 17 + 1 → S1.2.2 16 = S.2.2 16 + V_f h → Q M1) : g_Call (d + 46) 186 [.ref t, g_n ((lv : Int) + 1)] M (g_qV Q) := by
  obtain ⟨d1, d2, d3, d4⟩ := C_D_s.mp hD
  have hxm : x ∈ A ++ x :: B := List.mem_append_right _ List.mem_cons_self
  -- the rest, seen from the child
  have hpu2 : us.Perm (V_us h x.2 ++ (V_ts h (A ++ x :: B) ++ (V_uk h A ++ V_uk h B) ++ R)) := by
    refine hpu.trans ?_
    rw [V_us_k, V_uk_app, V_uk_c, ← List.append_assoc (V_us h x.2)]
    refine List.Perm.append_right _ ?_
    refine (List.Perm.append_left _ (List.perm_append_comm_assoc (V_uk h A) (V_us h x.2) (V_uk h B))).trans ?_
    exact List.perm_append_comm_assoc _ _ _
  have hpn2 : ns.Perm (V_ns h (V_n x.1) x.2 ++ (n :: (V_nk (h + 1) A ++ V_nk (h + 1) B) ++ R')) := by
    refine hpn.trans ?_
    rw [V_ns_e, V_nk_app, V_nk_c, ← List.append_assoc (V_ns h (V_n x.1) x.2)]
    refine List.Perm.append_right _ ?_
    refine (List.Perm.cons n (List.perm_append_comm_assoc (V_nk (h + 1) A) (V_ns h (V_n x.1) x.2) (V_nk (h + 1) B))).trans ?_
    exact List.perm_middle.symm
  rw [List.length_append, List.length_cons] at h8
  refine c_split1 (d := d) (lv := lv + 1) hB ha (d4 x hxm) h9 hpu2 hpn2 (by rw [show ((lv + 1 : Nat) : Int) = (lv : Int) + 1 by omega]; exact hw3) (by omega) hu hnl h16 h17 fun nr ms j1 i1 FS1 us1 FN1 ns1 S1 M1 y r hd t1 f1 g1 a1 pu1 pn1 D1 D2 e1 k17 k16 => ?_
  rw [show ((lv + 1 : Nat) : Int) = (lv : Int) + 1 by omega]
  obtain ⟨R2, hR2⟩ : ∃ R2, R2 = V_ts h (A ++ x :: B) ++ (V_uk h A ++ V_uk h B) ++ R := ⟨_, rfl⟩
  obtain ⟨R3, hR3⟩ : ∃ R3, R3 = n :: (V_nk (h + 1) A ++ V_nk (h + 1) B) ++ R' := ⟨_, rfl⟩
  rw [← hR2] at g1 pu1 hpu2
  rw [← hR3] at g1 pn1 hpn2
  have hR2u : ∀ s ∈ R2, s ∈ us := fun s hs => hpu2.mem_iff.mpr (List.mem_append_right _ hs)
  have hR3n : ∀ m ∈ R3, m ∈ ns := fun m hm => hpn2.mem_iff.mpr (List.mem_append_right _ hm)
  have hR3n1 : ∀ m ∈ R3, m ∈ ns1 := fun m hm => pn1.mem_iff.mpr (List.mem_append_right _ hm)
  have hnR : n ∈ R3 := by rw [hR3]; exact List.mem_cons_self
  have hn1 := a1.2.1.lt (hR3n1 n hnR)
  have hn0 := ha.2.1.lt (hR3n n hnR)
  have hRR3 : ∀ m ∈ R', m ∈ R3 := fun m hm => by rw [hR3]; exact List.mem_append_right _ hm
  have hRR2 : ∀ s ∈ R, s ∈ R2 := fun s hs => by rw [hR2]; exact List.mem_append_right _ hs
  have hAm : ∀ z ∈ A, z ∈ A ++ x :: B := fun z hz => List.mem_append_left _ hz
  have hBm : ∀ z ∈ B, z ∈ A ++ x :: B := fun z hz => List.mem_append_right _ (List.mem_cons_of_mem _ hz)
  -- neighbours stay
  have hsib : ∀ z, z ∈ A ∨ z ∈ B → C_D S1 h (V_n z.1) z.2 ∧ (∀ m ∈ V_ns h (V_n z.1) z.2, m ∈ R3) ∧ ∀ s ∈ V_us h z.2, s ∈ R2 := fun z hz => by
    have m1 : ∀ m ∈ V_ns h (V_n z.1) z.2, m ∈ R3 := fun m hm => by
      rw [hR3]
      refine List.mem_append_left _ (List.mem_cons_of_mem _ ?_)
      rcases hz with g | g
      · exact List.mem_append_left _ (List.mem_flatMap.mpr ⟨z, g, hm⟩)
      · exact List.mem_append_right _ (List.mem_flatMap.mpr ⟨z, g, hm⟩)
    have m2 : ∀ s ∈ V_us h z.2, s ∈ R2 := fun s hs => by
      rw [hR2]
      refine List.mem_append_left _ (List.mem_append_right _ ?_)
      rcases hz with g | g
      · exact List.mem_append_left _ (List.mem_flatMap.mpr ⟨z, g, hs⟩)
      · exact List.mem_append_right _ (List.mem_flatMap.mpr ⟨z, g, hs⟩)
    have hzm : z ∈ A ++ x :: B := hz.elim (hAm z) (hBm z)
    exact ⟨(d4 z hzm).ag ha.ln ha.uu (fun m hm => ha.2.1.lt (hR3n m (m1 m hm))) (fun s hs => ha.1.lt (hR2u s (m2 s hs))) g1 (fun m hm => V_A.nav (m1 m hm)) fun s hs => V_A.sav (m2 s hs), m1, m2⟩
  have hno1 : B_no S1 n 0 ((A ++ x :: B).map (V_k (h + 1))) (V_ts h (A ++ x :: B)) := d1.ag ha.ln hn0 (by rw [List.length_map]; exact d2) (by rw [V_ts_len]; omega) g1 (V_A.nav hnR).1 (V_A.nav hnR).2.1 (V_A.nav hnR).2.2
  obtain ⟨o1, o2, o3, o4⟩ := id hno1
  rw [List.length_map, List.length_append, List.length_cons] at o2
  obtain ⟨l4, l5, l6, l7, lN⟩ := a1.ln
  obtain ⟨-, -, -, y1, y2⟩ := id a1
  obtain ⟨-, -, -, y01, y02⟩ := id ha
  have way : S1.2.1 10 lv = n ∧ S1.2.1 11 lv = A.length := ⟨by rw [g1.2.1 10 lv (fun z => z.1 rfl) (by omega) (by omega)]; exact hw1, by rw [g1.2.1 11 lv (fun z => z.2.1 rfl) (by omega) (by omega)]; exact hw2⟩
  have hnrm : nr ∈ ns1 := pn1.mem_iff.mpr (List.mem_append_left _ (List.mem_append_right _ (V_ns_m h nr _)))
  have hnrl := a1.2.1.lt hnrm
  have hmsm : ms ∈ us1 := pu1.mem_iff.mpr (List.mem_append_left _ List.mem_cons_self)
  have hmsl := a1.1.lt hmsm
  have hcs1 := B_cs_le ⟨j1, by have := a1.1.1.2.2.2; omega⟩
  simp only at hcs1
  have hchn : ∀ m, m ∈ V_ns h (V_n x.1) (x.2.take 4) ∨ m ∈ V_ns h nr (x.2.drop 4) → m ≠ n := fun m hm z => by
    have hnd := (pn1.nodup_iff).mp a1.2.1.nd
    exact (List.nodup_append.mp hnd).2.2 m (List.mem_append.mpr hm) n hnR z
  -- the mark comes to the parent
  obtain ⟨wn, p1, p2, p3⟩ := t1.at (k := 10) (by decide)
  obtain ⟨wt, q1, q2, q3⟩ := t1.at (k := 11) (by decide)
  obtain ⟨mk, m1, m2, -⟩ := t1.at (k := 5) (by decide)
  obtain ⟨cn, c1, c2, c3⟩ := t1.at (k := 6) (by decide)
  have p2 : g_A M1 wn 1 (S1.1 10) := p2
  have q2 : g_A M1 wt 1 (S1.1 11) := q2
  have m2 : g_A M1 mk 1 (S1.1 5) := m2
  have c2 : g_A M1 cn 1 (S1.1 6) := c2
  refine s_X10_split_133 ⟨by omega, by omega⟩ ⟨by have := a1.2.1.lt (pn1.mem_iff.mpr (List.mem_append_left _ (List.mem_append_left _ (V_ns_m h (V_n x.1) (x.2.take 4))))); omega, by have := a1.2.1.lt (pn1.mem_iff.mpr (List.mem_append_left _ (List.mem_append_left _ (V_ns_m h (V_n x.1) (x.2.take 4))))); omega⟩ ⟨by omega, by omega⟩ ⟨by have := a1.2.1.lt (pn1.mem_iff.mpr (List.mem_append_left _ (List.mem_append_left _ (V_ns_m h (V_n x.1) (x.2.take 4))))); omega, by have := a1.2.1.lt (pn1.mem_iff.mpr (List.mem_append_left _ (List.mem_append_left _ (V_ns_m h (V_n x.1) (x.2.take 4))))); omega⟩ ⟨by decide, by decide⟩ ⟨by omega, by omega⟩ fun _ => ⟨fun z => absurd z (by omega), fun _ => ⟨t1.1, wn, p1, ⟨by omega, by omega⟩, S1.1 10, p2, ⟨by omega, by omega⟩, wt, q1, ⟨by omega, by omega⟩, S1.1 11, q2, ⟨by omega, by omega⟩, ?_⟩⟩
  rw [show (lv : Int) + 1 - 1 = lv by omega, p3 _ (by omega) (by omega), way.1, q3 _ (by omega) (by omega), way.2]
  have hcv : g_i M1 cn n = (A.length + (B.length + 1) : Nat) := by rw [c3 _ (by omega) (by omega)]; exact o2
  refine ⟨⟨by omega, by omega⟩, ⟨by omega, by omega⟩, mk, m1, mk, m1, ⟨by omega, by omega⟩, cn, c1, S1.1 6, c2, ⟨by omega, by omega⟩, ?_⟩
  rw [hcv]
  refine ⟨⟨by omega, by omega⟩, ⟨by omega, by omega⟩, S1.1 5, m2, S1.1 5, m2, ⟨by omega, by omega, by omega, by omega, by omega⟩, fun M33 e33 _ => ?_⟩
  obtain ⟨t2, f2⟩ := t1.cpy (k := 5) (k1 := 5) (sp := (n : Int) * 9 + A.length) (dp := (n : Int) * 9 + A.length + 1) (n := ((A.length + (B.length + 1) : Nat) : Int) - 1 - A.length) (by decide) (by decide) m1 m1 (by omega) (by omega)
  rw [← e33] at t2 f2
  obtain ⟨mk2, m3, m4, -⟩ := t2.at (k := 5) (by decide)
  have m4 : g_A M33 mk2 1 (S1.1 5) := m4
  refine ⟨mk2, m3, S1.1 5, m4, ⟨by omega, by omega⟩, fun M42 e42 _ => ⟨⟨by omega, by omega⟩, ?_⟩⟩
  obtain ⟨t3, f3⟩ := t2.set (k := 5) (by decide) m3 ((n : Int) * 9 + A.length) (ms : Int)
  rw [← e42] at t3 f3
  obtain ⟨S3, hS3⟩ : ∃ S3, S3 = B_set (B_cp S1 5 5 ((n : Int) * 9 + A.length) ((n : Int) * 9 + A.length + 1) (((A.length + (B.length + 1) : Nat) : Int) - 1 - A.length)) 5 ((n : Int) * 9 + A.length) ms := ⟨_, rfl⟩
  rw [← hS3] at t3
  have hv : ∀ (k2 : Nat) (q : Int), S3.2.1 k2 q = if k2 = 5 ∧ q = (n : Int) * 9 + A.length then (ms : Int) else if k2 = 5 ∧ (n : Int) * 9 + A.length + 1 ≤ q ∧ q < (n : Int) * 9 + A.length + 1 + (((A.length + (B.length + 1) : Nat) : Int) - 1 - A.length) then S1.2.1 5 ((n : Int) * 9 + A.length + (q - ((n : Int) * 9 + A.length + 1))) else S1.2.1 k2 q := fun k2 q => by
    rw [hS3, B_set_v, B_cp_v]
  have g3 : B_ag (B_mA n) B_0 S1 S3 := ⟨fun k2 => by rw [hS3]; exact Int.le_refl _, fun k2 q hA _ _ => by
    rw [hv, if_neg fun z => hA ⟨z.1, by omega, by omega⟩, if_neg fun z => hA ⟨z.1, by omega, by omega⟩], fun k2 _ => by rw [hS3]; rfl⟩
  have a3 : B_all S3 j1 i1 FS1 us1 FN1 ns1 w1 w2 := a1.ag g3 (by rw [hS3]; rfl) (fun q z => by have := z.1; omega) (fun q z => by have := z.1; omega) (fun z => z) (fun z => z) (fun z => z) fun z => z
  obtain ⟨P, hP⟩ : ∃ P, P = V_ts h (A ++ [x]) := ⟨_, rfl⟩
  have hPl : P.length = A.length := by rw [hP, V_ts_len, List.length_append, List.length_singleton]; rfl
  have hks : (A ++ x :: B).map (V_k (h + 1)) = (A.map (V_k (h + 1)) ++ [V_n x.1]) ++ B.map (V_k (h + 1)) := by simp; rfl
  have hno3 : B_no S3 n 0 ((A.map (V_k (h + 1)) ++ [V_n x.1]) ++ B.map (V_k (h + 1))) (P ++ ms :: B.map fun z => V_s z.1) := by
    rw [hks] at o3
    rw [V_ts_cut, ← hP, B_il_app] at o4
    refine ⟨?_, ?_, b_at_keep o3 fun q _ _ => by rw [hv, if_neg (by omega), if_neg (by omega)], ?_⟩
    · rw [hv, if_neg (by omega), if_neg (by omega)]
      exact o1
    · rw [hv, if_neg (by omega), if_neg (by omega), o2, List.length_append, List.length_append, List.length_map, List.length_map, List.length_singleton]
      omega
    · rw [B_il_app, B_il_c]
      refine b_at_cut o4 (fun q i0 i1 => ?_) ?_ fun q i0 i1 => ?_
      · rw [B_il_len, hPl] at i1
        rw [hv, if_neg (by omega), if_neg (by omega)]
      · rw [B_il_len, hPl, hv, if_pos ⟨rfl, by omega⟩]
      · rw [B_il_len, List.length_map] at i1
        rw [B_il_len, hPl, hv, if_neg (by omega), if_pos ⟨rfl, by omega, by omega⟩]
        exact congrArg (S1.2.1 5) (by omega)
  have hArg : ((A.map (V_k (h + 1)) ++ [V_n x.1]).length : Int) = (A.length : Int) + 1 := by
    rw [List.length_append, List.length_map, List.length_singleton]
    omega
  rw [← hArg]
  refine c_insertKid (d := d + 44) (N := B_cn i1) t3 a3.ln hn1 hno3 (by rw [List.length_append, List.length_append, List.length_map, List.length_map, List.length_singleton]; omega) (by omega) (by rw [List.length_append, List.length_cons, hPl, List.length_map]; omega) fun S4 M4 t4 f4 g4 e4 o5 => ?_
  intro _ _
  have ag34 : B_ag (fun k q => B_mA n k q ∨ B_kA n k q) B_0 S1 S4 := (g3.up (fun k q z => Or.inl z) fun k z => z).tr (g4.up (fun k q z => Or.inr z) fun k z => z)
  have nav34 : ∀ m, m ≠ n → B_nav (fun k q => B_mA n k q ∨ B_kA n k q) m := fun m hm => by
    obtain ⟨b1, b2, b3⟩ := B_mA_nav hm
    obtain ⟨c1, c2, c3⟩ := B_kA_nav hm
    exact ⟨fun q q1 q2 => ⟨fun z => z.elim (b1 q q1 q2).1 (c1 q q1 q2).1, fun z => z.elim (b1 q q1 q2).2 (c1 q q1 q2).2⟩, fun z => z.elim b2 c2, fun z => z.elim b3 c3⟩
  have sav34 : ∀ s, B_sav (fun k q => B_mA n k q ∨ B_kA n k q) s := fun s => by
    obtain ⟨b1, b2⟩ := B_mA_sav n s
    obtain ⟨c1, c2⟩ := B_kA_sav n s
    exact ⟨fun q q1 q2 z => z.elim (b1 q q1 q2) (c1 q q1 q2), fun z => z.elim b2 c2⟩
  have way34 : ∀ q : Int, ¬ (B_mA n 10 q ∨ B_kA n 10 q) ∧ ¬ (B_mA n 11 q ∨ B_kA n 11 q) := fun q => by
    constructor
    · rintro (z | z | z)
      · have := z.1; omega
      · have := z.1; omega
      · have := z.1; omega
    · rintro (z | z | z)
      · have := z.1; omega
      · have := z.1; omega
      · have := z.1; omega
  have hR3nd : R3.Nodup := (List.nodup_append.mp ((hpn2.nodup_iff).mp ha.2.1.nd)).2.1
  rw [hR3] at hR3nd
  have hn_nd : ∀ m ∈ V_nk (h + 1) A ++ V_nk (h + 1) B ++ R', m ≠ n := fun m hm z => by
    rw [List.cons_append] at hR3nd
    exact (List.nodup_cons.mp hR3nd).1 (z ▸ hm)
  have hmk : ∀ (z : N_i V_W (h + 1)) (C : List (N_i V_W h)) (m : Nat), C_D S1 h m C → (∀ k ∈ V_ns h m C, k ∈ ns1) → (∀ k ∈ V_ns h m C, k ≠ n) → (∀ s ∈ V_us h C, s ∈ us1) → C_D S4 h m C := fun z C m hC h1 h2 h3 => hC.ag a1.ln a1.uu (fun k hk => a1.2.1.lt (h1 k hk)) (fun s hs => a1.1.lt (h3 s hs)) ag34 (fun k hk => nav34 k (h2 k hk)) fun s _ => sav34 s
  have hR2u1 : ∀ s ∈ R2, s ∈ us1 := fun s hs => pu1.mem_iff.mpr (List.mem_append_right _ hs)
  have hmk4 : ∀ (s : Nat) (e : I_E), B_eg S s e → s ∈ R2 → B_eg S4 s e := fun s e he hs => (he.ag ha.uu (ha.1.lt (hR2u s hs)) g1 (V_A.sav hs)).ag a1.uu (a1.1.lt (hR2u1 s hs)) ag34 (sav34 s)
  obtain ⟨x1, hx1⟩ : ∃ x1, x1 = N_mk h x.1 (x.2.take 4) := ⟨_, rfl⟩
  obtain ⟨x2, hx2⟩ : ∃ x2, x2 = N_mk h ((ms, nr), V_e (N_f h y)) (x.2.drop 4) := ⟨_, rfl⟩
  have e11 : x1.1 = x.1 := by rw [hx1]; rfl
  have e12 : x1.2 = x.2.take 4 := by rw [hx1]; rfl
  have e21 : x2.1 = ((ms, nr), V_e (N_f h y)) := by rw [hx2]; rfl
  have e22 : x2.2 = x.2.drop 4 := by rw [hx2]; rfl
  have hq2 := hq nr ms j1 i1 FS1 us1 FN1 ns1 S4 M4 y r hd
  rw [← hx1, ← hx2] at hq2
  have hts' : V_ts h (A ++ x1 :: x2 :: B) = P ++ ms :: B.map fun z => V_s z.1 := by
    rw [V_ts_cut, V_ts_m h A (x := x) [] (by rw [e11]), ← hP, List.map_cons, e21]
    rfl
  have hto : V_ts h (A ++ x :: B) = P ++ B.map fun z => V_s z.1 := by rw [V_ts_cut, ← hP]
  have hks' : (A ++ x1 :: x2 :: B).map (V_k (h + 1)) = (A.map (V_k (h + 1)) ++ [V_n x.1]) ++ nr :: B.map (V_k (h + 1)) := by
    have k1 : V_k (h + 1) x1 = V_n x.1 := by
      show V_n x1.1 = _
      rw [e11]
    have k2 : V_k (h + 1) x2 = nr := by
      show V_n x2.1 = _
      rw [e21]
      rfl
    rw [List.map_append, List.map_cons, List.map_cons, k1, k2, List.append_assoc]
    rfl
  refine hq2 t4 (f1.tr (((f2.tr0 f3).tr0 f4).c j1 i1)) ((g1.up (V_A.sub hRR3 hRR2) fun k z => z).tr (ag34.up (V_A.of (fun m hm => nav34 m (hn_nd m (List.mem_append_right _ hm))) (fun s _ => sav34 s) way34) fun k z => z.elim)) (a3.ag g4 e4 (fun q z => by rcases z with ⟨z, -⟩ | ⟨z, -⟩ <;> omega) (fun q z => by rcases z with ⟨z, -⟩ | ⟨z, -⟩ <;> omega) (fun z => z) (fun z => z) (fun z => z) fun z => z) ?_ ?_ (C_D_s.mpr ⟨?_, ?_, fun z hz => ?_, fun z hz => ?_⟩) (by rw [ag34.2.2 17 fun z => z]; exact k17) (by rw [ag34.2.2 16 fun z => z]; exact k16)
  · refine pu1.trans (List.perm_iff_count.mpr fun a => ?_)
    rw [V_us_k, hts', V_uk_app, V_uk_c, V_uk_c, e12, e22, hR2, hto]
    simp only [List.count_append, List.count_cons]
    omega
  · refine pn1.trans (List.perm_iff_count.mpr fun a => ?_)
    rw [V_ns_e (h + 1), V_nk_app, V_nk_c, V_nk_c, e11, e12, e21, e22, hR3]
    show _ = List.count a (n :: (V_nk (h + 1) A ++ (V_ns h (V_n x.1) (List.take 4 x.2) ++ (V_ns h nr (List.drop 4 x.2) ++ V_nk (h + 1) B))) ++ R')
    simp only [List.count_append, List.count_cons]
    omega
  · rw [hks', hts']
    exact o5
  · rw [List.length_append, List.length_cons, List.length_cons]
    omega
  · have hcs : z ∈ A.tail ∨ (A ≠ [] ∧ z = x1) ∨ z = x2 ∨ z ∈ B := by
      cases A with
      | nil =>
        rcases List.mem_cons.mp (show z ∈ x2 :: B from hz) with g | g
        · exact Or.inr (Or.inr (Or.inl g))
        · exact Or.inr (Or.inr (Or.inr g))
      | cons a A =>
        rcases List.mem_append.mp (show z ∈ A ++ x1 :: x2 :: B from hz) with g | g
        · exact Or.inl g
        · rcases List.mem_cons.mp g with g | g
          · exact Or.inr (Or.inl ⟨by simp, g⟩)
          · rcases List.mem_cons.mp g with g | g
            · exact Or.inr (Or.inr (Or.inl g))
            · exact Or.inr (Or.inr (Or.inr g))
    have hold : ∀ z, z ∈ (A ++ x :: B).tail → B_eg S4 (V_s z.1) (V_e z.1) := fun z hz => hmk4 _ _ (d3 z hz) (by
      rw [hR2]
      exact List.mem_append_left _ (List.mem_append_left _ (List.mem_map.mpr ⟨z, hz, rfl⟩)))
    rcases hcs with g | ⟨g1, g⟩ | g | g
    · refine hold z ?_
      cases A with
      | nil => exact absurd g (by simp)
      | cons a A => exact List.mem_append_left _ g
    · rw [g, e11]
      refine hold x ?_
      cases A with
      | nil => exact absurd rfl g1
      | cons a A => exact List.mem_append_right _ List.mem_cons_self
    · rw [g, e21]
      exact e1.ag a1.uu hmsl ag34 (sav34 ms)
    · refine hold z ?_
      cases A with
      | nil => exact g
      | cons a A => exact List.mem_append_right _ (List.mem_cons_of_mem _ g)
  · have hcs : (z ∈ A ∨ z ∈ B) ∨ z = x1 ∨ z = x2 := by
      rcases List.mem_append.mp hz with g | g
      · exact Or.inl (Or.inl g)
      · rcases List.mem_cons.mp g with g | g
        · exact Or.inr (Or.inl g)
        · rcases List.mem_cons.mp g with g | g
          · exact Or.inr (Or.inr g)
          · exact Or.inl (Or.inr g)
    rcases hcs with g | g | g
    · obtain ⟨b1, b2, b3⟩ := hsib z g
      refine hmk z _ _ b1 (fun k hk => hR3n1 k (b2 k hk)) (fun k hk => hn_nd k ?_) fun s hs => hR2u1 s (b3 s hs)
      refine List.mem_append_left _ ?_
      rcases g with g | g
      · exact List.mem_append_left _ (List.mem_flatMap.mpr ⟨z, g, hk⟩)
      · exact List.mem_append_right _ (List.mem_flatMap.mpr ⟨z, g, hk⟩)
    · rw [g, e11, e12]
      exact hmk x _ _ D1 (fun k hk => pn1.mem_iff.mpr (List.mem_append_left _ (List.mem_append_left _ hk))) (fun k hk => hchn k (Or.inl hk)) fun s hs => pu1.mem_iff.mpr (List.mem_append_left _ (List.mem_cons_of_mem _ (List.mem_append_left _ hs)))
    · rw [g, e21, e22]
      exact hmk x _ _ D2 (fun k hk => pn1.mem_iff.mpr (List.mem_append_left _ (List.mem_append_right _ hk))) (fun k hk => hchn k (Or.inr hk)) fun s hs => pu1.mem_iff.mpr (List.mem_append_left _ (List.mem_cons_of_mem _ (List.mem_append_right _ hs)))
end CSPP
