/-! TREES OF THE CLASS: a node's two halves -/
section CSPM
variable {d t j i : Nat} {w1 w2 : Int} {FS us FN ns R R' : List Nat}
theorem V_cut_m {h : Nat} {l : List (N_i V_W h)} : (∀ x ∈ l.take 4, x ∈ l) ∧ (∀ x ∈ l.drop 4, x ∈ l) ∧ (∀ x ∈ (l.take 4).tail, x ∈ l.tail) ∧ ∀ x ∈ (l.drop 4).tail, x ∈ l.tail := by
  refine ⟨fun x hx => List.mem_of_mem_take hx, fun x hx => List.mem_of_mem_drop hx, fun x hx => ?_, fun x hx => ?_⟩
  · cases l with
    | nil => exact absurd hx (by simp)
    | cons a r => exact List.mem_of_mem_take (show x ∈ List.take 3 r from hx)
  · rw [List.tail_drop] at hx
    cases l with
    | nil => exact absurd hx (by simp)
    | cons a r => exact List.mem_of_mem_drop (show x ∈ List.drop 4 r from hx)
theorem c_split1 {Q : g_M → Prop} {h lv n : Nat} {l : List (N_i V_W h)} {S : B_S} {M : g_M} (hB : B_t t S M) (ha : B_all S j i FS us FN ns w1 w2) (hD : C_D S h n l) (h9 : l.length = 9) (hpu : us.Perm (V_us h l ++ R)) (hpn : ns.Perm (V_ns h n l ++ R')) (hw : S.2.1 10 lv = n) (hlv : lv ≤ 15) (hu : us.length < 1369) (hnl : ns.length < 454) (h16 : 0 ≤ S.2.2 16 ∧ S.2.2 16 ≤ 1000) (h17 : 0 ≤ S.2.2 17 ∧ S.2.2 17 ≤ 1000) (hq : ∀ (nr ms j1 i1 : Nat) (FS1 us1 FN1 ns1 : List Nat) (S1 : B_S) (M1 : g_M) (y : N_i V_W h) (r : List (N_i V_W h)), l.drop 4 = y :: r → B_t t S1 M1 → B_Fc t j i j1 i1 M M1 → B_ag (V_A R' R) V_G4 S S1 → B_all S1 j1 i1 FS1 us1 FN1 ns1 w1 w2 → us1.Perm (ms :: (V_us h (l.take 4) ++ V_us h (l.drop 4)) ++ R) → ns1.Perm (V_ns h n (l.take 4) ++ V_ns h nr (l.drop 4) ++ R') → C_D S1 h n (l.take 4) → C_D S1 h nr (l.drop 4) → B_eg S1 ms (V_e (N_f h y)) → S1.2.2 17 = S.2.2 17 + 1 → S1.2.2 16 = S.2.2 16 + V_f h → g_Run (d + 45) 186 133 [(0, .ref t), (1, g_n lv), (2, g_n n), (3, g_n nr), (4, g_n ((n : Int) * 9)), (5, g_n ((9 : Int) - 4)), (6, g_n ms)] [] M1 (g_qV Q)) : g_Call (d + 46) 186 [.ref t, g_n lv] M (g_qV Q) := by
  have hnn : n ∈ ns := hpn.mem_iff.mpr (List.mem_append_left _ (V_ns_m h n l))
  have hnd := (hpn.nodup_iff).mp ha.2.1.nd
  have hud := (hpu.nodup_iff).mp ha.1.nd
  obtain ⟨hnd1, hnd2, hnd3⟩ := List.nodup_append.mp hnd
  obtain ⟨hud1, hud2, hud3⟩ := List.nodup_append.mp hud
  rw [V_ns_e] at hnd1
  have hnk : ∀ m ∈ V_nk h l, m ≠ n := fun m hm z => (List.nodup_cons.mp hnd1).1 (z ▸ hm)
  have hkin : ∀ m ∈ V_nk h l, m ∈ ns := fun m hm => hpn.mem_iff.mpr (List.mem_append_left _ (by rw [V_ns_e]; exact List.mem_cons_of_mem _ hm))
  have hRin : ∀ m ∈ R', m ∈ ns := fun m hm => hpn.mem_iff.mpr (List.mem_append_right _ hm)
  have hRn : ∀ m ∈ R', m ≠ n := fun m hm z => hnd3 n (V_ns_m h n l) m hm z.symm
  have huin : ∀ s ∈ V_us h l, s ∈ us := fun s hs => hpu.mem_iff.mpr (List.mem_append_left _ hs)
  have hRuin : ∀ s ∈ R, s ∈ us := fun s hs => hpu.mem_iff.mpr (List.mem_append_right _ hs)
  obtain ⟨y, r, hd⟩ : ∃ y r, l.drop 4 = y :: r := by
    cases hd : l.drop 4 with
    | nil =>
      have := congrArg List.length hd
      rw [List.length_drop, List.length_nil] at this
      omega
    | cons y r => exact ⟨y, r, rfl⟩
  obtain ⟨cm1, cm2, cm3, cm4⟩ := V_cut_m (l := l)
  have lt4 : (l.take 4).length ≤ 9 := by rw [List.length_take]; omega
  have ld4 : (l.drop 4).length ≤ 9 := by rw [List.length_drop]; omega
  have hn := ha.2.1.lt hnn
  refine c_split0 (d := d) hB ha hD h9 hnn hw hlv hnl h16 h17 fun nr i1 FN1 S4 M53 t4 f4 hnr a4 hnrl g4 z1 z2 z3 z4 z17 z16 => ?_
  have hne : nr ≠ n := fun z => hnr (z ▸ hnn)
  have hn4 := a4.2.1.lt (n := n) (List.mem_cons_of_mem _ hnn)
  obtain ⟨m4, m5, m6, m7, mN⟩ := a4.ln
  have nav0 : ∀ m ∈ ns, m ≠ n → B_nav (fun k q => B_nA nr k q ∨ B_kA nr k q ∨ (k = 6 ∧ q = n)) m := fun m hm hmn => by
    have hmr : m ≠ nr := fun z => hnr (z ▸ hm)
    obtain ⟨b1, b2, b3⟩ := B_nA_nav hmr
    obtain ⟨c1, c2, c3⟩ := B_kA_nav hmr
    refine ⟨fun q q1 q2 => ⟨fun z => ?_, fun z => ?_⟩, fun z => ?_, fun z => ?_⟩
    · exact z.elim (b1 q q1 q2).1 fun z => z.elim (c1 q q1 q2).1 fun z => by omega
    · exact z.elim (b1 q q1 q2).2 fun z => z.elim (c1 q q1 q2).2 fun z => by omega
    · exact z.elim b2 fun z => z.elim c2 fun z => by omega
    · exact z.elim b3 fun z => z.elim c3 fun z => by omega
  have sav0 : ∀ s, B_sav (fun k q => B_nA nr k q ∨ B_kA nr k q ∨ (k = 6 ∧ q = n)) s := fun s => by
    obtain ⟨b1, b2⟩ := B_nA_sav nr s
    obtain ⟨c1, c2⟩ := B_kA_sav nr s
    exact ⟨fun q q1 q2 z => z.elim (b1 q q1 q2) fun z => z.elim (c1 q q1 q2) fun z => by omega, fun z => z.elim b2 fun z => z.elim c2 fun z => by omega⟩
  have way0 : ∀ q : Int, ¬ (B_nA nr 10 q ∨ B_kA nr 10 q ∨ ((10 : Nat) = 6 ∧ q = n)) ∧ ¬ (B_nA nr 11 q ∨ B_kA nr 11 q ∨ ((11 : Nat) = 6 ∧ q = n)) := fun q => by
    constructor
    · rintro (z | z | z)
      · rcases z with z | ⟨z, -⟩ <;> omega
      · rcases z with ⟨z, -⟩ | ⟨z, -⟩ <;> omega
      · omega
    · rintro (z | z | z)
      · rcases z with z | ⟨z, -⟩ <;> omega
      · rcases z with ⟨z, -⟩ | ⟨z, -⟩ <;> omega
      · omega
  have gV : B_ag (V_A R' R) V_G4 S S4 := g4.up (V_A.of (fun m hm => nav0 m (hRin m hm) (hRn m hm)) (fun s _ => sav0 s) way0) fun k z => by
    rcases z with z | z | z
    · exact Or.inr (Or.inl z)
    · exact Or.inr (Or.inr (Or.inl z))
    · exact Or.inr (Or.inr (Or.inr z))
  have hno4 : B_no S4 n (V_f h) ((l.take 4).map (V_k h)) (V_m h l) := by rw [List.map_take]; exact z1
  have hkd4 : b_at (S4.2.1 4) (9 * nr) (B_il ((l.drop 4).map (V_k h))) := by rw [List.map_drop]; exact z4
  have hld : ((l.drop 4).map (V_k h)).length = 5 := by rw [List.length_map, List.length_drop, h9]
  obtain ⟨lf, p1, p2, p3⟩ := t4.at (k := 7) (by decide)
  have p2 : g_A M53 lf 2 (S4.1 7) := p2
  refine ⟨lf, p1, S4.1 7, p2, ⟨by omega, by omega⟩, ?_⟩
  rw [p3 _ (by omega) (by omega), z1.1]
  have hnsp : (nr :: ns).Perm (V_ns h n (l.take 4) ++ V_ns h nr (l.drop 4) ++ R') := by
    refine (List.Perm.cons nr hpn).trans ?_
    rw [V_ns_e h n l, V_ns_e h n (l.take 4), V_ns_e h nr (l.drop 4), V_nk_cut h l]
    show (nr :: (n :: ((V_nk h (l.take 4) ++ V_nk h (l.drop 4)) ++ R'))).Perm (n :: (V_nk h (l.take 4) ++ nr :: V_nk h (l.drop 4)) ++ R')
    refine (List.Perm.swap n nr _).trans (List.Perm.cons n ?_)
    show (nr :: ((V_nk h (l.take 4) ++ V_nk h (l.drop 4)) ++ R')).Perm ((V_nk h (l.take 4) ++ nr :: V_nk h (l.drop 4)) ++ R')
    rw [List.append_assoc, List.append_assoc]
    exact List.perm_middle.symm
  cases h with
  | zero =>
    refine ⟨fun z => absurd z (by decide), fun _ => ?_⟩
    obtain ⟨kd, k1, k2, k3⟩ := t4.at (k := 4) (by decide)
    have k2 : g_A M53 kd 1 (S4.1 4) := k2
    refine ⟨kd, k1, ⟨by omega, by omega⟩, S4.1 4, k2, ⟨by omega, by omega⟩, ?_⟩
    have hkv : g_i M53 kd ((nr : Int) * 9) = V_k 0 y := by
      rw [k3 _ (by omega) (by omega)]
      have := hkd4 0 (V_k 0 y) (by rw [hd]; rfl)
      exact (congrArg (S4.2.1 4) (by omega)).trans this
    rw [hkv]
    have hym : y ∈ l := cm2 y (by rw [hd]; exact List.mem_cons_self)
    have hyu : V_k 0 y ∈ V_us 0 l := List.mem_map.mpr ⟨y, hym, rfl⟩
    have hye : B_eg S4 (V_k 0 y) (V_e y) := (hD.2.2 y hym).ag ha.uu (ha.1.lt (huin _ hyu)) g4 (sav0 _)
    refine c_markLike (d := d + 42) t4 a4 hu (huin _ hyu) hye fun ms j1 FS1 S1 M1 t1 f1 g1 a1 e1 _ => ?_
    intro _ _ _
    have hms : ms ∉ us := (List.nodup_cons.mp a1.1.nd).1
    have savL : ∀ s ∈ us, B_sav (B_lA ms) s := fun s hs => B_lA_sav fun z => hms (z ▸ hs)
    have gg : B_ag (fun k q => (B_nA nr k q ∨ B_kA nr k q ∨ (k = 6 ∧ q = n)) ∨ B_lA ms k q) V_G4 S S1 := (g4.up (fun k q z => Or.inl z) fun k z => by
      rcases z with z | z | z
      · exact Or.inr (Or.inl z)
      · exact Or.inr (Or.inr (Or.inl z))
      · exact Or.inr (Or.inr (Or.inr z))).tr (g1.up (fun k q z => Or.inr z) fun k z => Or.inl z)
    have savG : ∀ s ∈ us, B_sav (fun k q => (B_nA nr k q ∨ B_kA nr k q ∨ (k = 6 ∧ q = n)) ∨ B_lA ms k q) s := fun s hs => by
      obtain ⟨b1, b2⟩ := sav0 s
      obtain ⟨c1, c2⟩ := savL s hs
      exact ⟨fun q q1 q2 z => z.elim (b1 q q1 q2) (c1 q q1 q2), fun z => z.elim b2 c2⟩
    have hno1 : B_no S1 n (V_f 0) ((l.take 4).map (V_k 0)) (V_m 0 (l.take 4)) := hno4.ag a4.ln hn4 (by rw [List.length_map]; exact lt4) (Nat.zero_le _) g1 (B_lA_nav ms n).1 (B_lA_nav ms n).2.1 (B_lA_nav ms n).2.2
    have hno2 : B_no S4 nr (V_f 0) ((l.drop 4).map (V_k 0)) (V_m 0 (l.drop 4)) := ⟨z2, by rw [z3, hld]; rfl, hkd4, b_nil _ _⟩
    have hno3 := hno2.ag a4.ln hnrl (by rw [hld]; decide) (Nat.zero_le _) g1 (B_lA_nav ms nr).1 (B_lA_nav ms nr).2.1 (B_lA_nav ms nr).2.2
    have hbu : ∀ s ∈ V_us 0 l, (s : Int) < B_cs j := fun s hs => ha.1.lt (huin s hs)
    refine hq nr ms j1 i1 FS1 (ms :: us) FN1 (nr :: ns) S1 M1 y r hd t1 (f4.tr f1) (gV.tr (g1.up (V_A.of (fun m _ => B_lA_nav ms m) (fun s hs => savL s (hRuin s hs)) fun q => ⟨fun z => ?_, fun z => ?_⟩) fun k z => Or.inl z)) a1 ?_ hnsp ?_ ?_ e1 (by rw [g1.2.2 17 (by decide)]; exact z17) (by rw [g1.2.2 16 (by decide)]; exact z16)
    · rcases z with z | ⟨z, -⟩ | ⟨z, -⟩ <;> omega
    · rcases z with z | ⟨z, -⟩ | ⟨z, -⟩ <;> omega
    · rw [← V_us0_cut]
      exact List.Perm.cons _ hpu
    · exact hD.re ha.ln ha.uu (fun m hm => absurd hm (by simp [V_nk])) hbu gg hno1 lt4 cm1 cm3 (fun m hm => absurd hm (by simp [V_nk])) fun s hs => savG s (huin s hs)
    · exact hD.re ha.ln ha.uu (fun m hm => absurd hm (by simp [V_nk])) hbu gg hno3 ld4 cm2 cm4 (fun m hm => absurd hm (by simp [V_nk])) fun s hs => savG s (huin s hs)
  | succ h =>
    refine ⟨fun _ => ?_, fun z => absurd rfl z⟩
    have hml : (V_ts h l).length = 8 := by rw [V_ts_len, h9]
    have hm4 : b_at (S4.2.1 5) (9 * n) (B_il (V_ts h l)) := hno4.2.2.2
    obtain ⟨mk, k1, k2, k3⟩ := t4.at (k := 5) (by decide)
    have k2 : g_A M53 mk 1 (S4.1 5) := k2
    have hy3 : (V_ts h l)[3]? = some (V_s y.1) := by
      have e1 : l = l.take 4 ++ y :: r := by rw [← hd, List.take_append_drop]
      unfold V_ts
      rw [List.getElem?_map, List.getElem?_tail, show 3 + 1 = 4 from rfl, e1, List.getElem?_append_right (by rw [List.length_take]; omega)]
      rw [List.length_take, show 4 - min 4 l.length = 0 by omega]
      rfl
    have hmv : g_i M53 mk ((n : Int) * 9 + 4 - 1) = V_s y.1 := by
      rw [k3 _ (by omega) (by omega)]
      have := hm4 3 (V_s y.1) (by unfold B_il; rw [List.getElem?_map, hy3]; rfl)
      exact (congrArg (S4.2.1 5) (by omega)).trans this
    refine ⟨mk, k1, ⟨by omega, by omega⟩, ⟨by omega, by omega⟩, S4.1 5, k2, ⟨by omega, by omega⟩, mk, k1, ⟨by omega, by omega⟩, mk, k1, ⟨by omega, by omega⟩, ⟨by decide, by decide⟩, S4.1 5, k2, S4.1 5, k2, ⟨by omega, by omega, by decide, by omega, by omega⟩, fun M81 e81 _ => ?_⟩
    rw [hmv]
    obtain ⟨t8, f8⟩ := t4.cpy (k := 5) (k1 := 5) (sp := (n : Int) * 9 + 4) (dp := (nr : Int) * 9) (n := 9 - 4 - 1) (by decide) (by decide) k1 k1 (by omega) (by omega)
    rw [← e81] at t8 f8
    obtain ⟨S8, hS8⟩ : ∃ S8, S8 = B_cp S4 5 5 ((n : Int) * 9 + 4) ((nr : Int) * 9) (9 - 4 - 1) := ⟨_, rfl⟩
    rw [← hS8] at t8
    have hv : ∀ (k2 : Nat) (q : Int), S8.2.1 k2 q = if k2 = 5 ∧ (nr : Int) * 9 ≤ q ∧ q < (nr : Int) * 9 + (9 - 4 - 1) then S4.2.1 5 ((n : Int) * 9 + 4 + (q - (nr : Int) * 9)) else S4.2.1 k2 q := fun k2 q => by
      rw [hS8, B_cp_v]
    have g8 : B_ag (B_mA nr) B_0 S4 S8 := ⟨fun k2 => by rw [hS8]; exact Int.le_refl _, fun k2 q hA _ _ => by
      rw [hv, if_neg fun z => hA ⟨z.1, by omega, by omega⟩], fun k2 _ => by rw [hS8]; rfl⟩
    have a8 : B_all S8 j i1 FS us FN1 (nr :: ns) w1 w2 := a4.ag g8 (by rw [hS8]; rfl) (fun q z => by have := z.1; omega) (fun q z => by have := z.1; omega) (fun z => z) (fun z => z) (fun z => z) fun z => z
    have gg : B_ag (fun k q => (B_nA nr k q ∨ B_kA nr k q ∨ (k = 6 ∧ q = n)) ∨ B_mA nr k q) V_G4 S S8 := (g4.up (fun k q z => Or.inl z) fun k z => by
      rcases z with z | z | z
      · exact Or.inr (Or.inl z)
      · exact Or.inr (Or.inr (Or.inl z))
      · exact Or.inr (Or.inr (Or.inr z))).tr (g8.up (fun k q z => Or.inr z) fun k z => z.elim)
    have savG : ∀ s, B_sav (fun k q => (B_nA nr k q ∨ B_kA nr k q ∨ (k = 6 ∧ q = n)) ∨ B_mA nr k q) s := fun s => by
      obtain ⟨b1, b2⟩ := sav0 s
      obtain ⟨c1, c2⟩ := B_mA_sav nr s
      exact ⟨fun q q1 q2 z => z.elim (b1 q q1 q2) (c1 q q1 q2), fun z => z.elim b2 c2⟩
    have navG : ∀ m ∈ ns, m ≠ n → B_nav (fun k q => (B_nA nr k q ∨ B_kA nr k q ∨ (k = 6 ∧ q = n)) ∨ B_mA nr k q) m := fun m hm hmn => by
      obtain ⟨b1, b2, b3⟩ := nav0 m hm hmn
      obtain ⟨c1, c2, c3⟩ := B_mA_nav (n := nr) (m := m) fun z => hnr (z ▸ hm)
      exact ⟨fun q q1 q2 => ⟨fun z => z.elim (b1 q q1 q2).1 (c1 q q1 q2).1, fun z => z.elim (b1 q q1 q2).2 (c1 q q1 q2).2⟩, fun z => z.elim b2 c2, fun z => z.elim b3 c3⟩
    have hts : V_ts h l = V_ts h (l.take 4) ++ (V_ts h l).drop 3 := by rw [V_ts_take, List.take_append_drop]
    have hno1 : B_no S4 n (V_f (h + 1)) ((l.take 4).map (V_k (h + 1))) (V_m (h + 1) (l.take 4)) := ⟨hno4.1, hno4.2.1, hno4.2.2.1, by
      rw [hts, B_il_app] at hm4
      exact (b_app.mp hm4).1⟩
    have hno2 := hno1.ag a4.ln hn4 (by rw [List.length_map]; exact lt4) (by have := V_m_len (h + 1) (l.take 4); omega) g8 (B_mA_nav (n := nr) hne.symm).1 (B_mA_nav (n := nr) hne.symm).2.1 (B_mA_nav (n := nr) hne.symm).2.2
    have hld8 : ((V_ts h l).drop 4).length = 4 := by rw [List.length_drop, hml]
    have hno3 : B_no S8 nr (V_f (h + 1)) ((l.drop 4).map (V_k (h + 1))) (V_m (h + 1) (l.drop 4)) := by
      refine ⟨?_, ?_, ?_, ?_⟩
      · rw [hv, if_neg (by omega)]
        exact z2
      · rw [hv, if_neg (by omega), z3, hld]
        rfl
      · exact b_at_keep hkd4 fun q q1 q2 => by rw [hv, if_neg (by omega)]
      · show b_at (S8.2.1 5) (9 * nr) (B_il (V_ts h (l.drop 4)))
        rw [V_ts_drop]
        have h5 : V_ts h l = (V_ts h l).take 4 ++ (V_ts h l).drop 4 := (List.take_append_drop _ _).symm
        rw [h5, B_il_app] at hm4
        obtain ⟨x1, x2⟩ := b_app.mp hm4
        rw [B_il_len, List.length_take, hml] at x2
        intro q w hq2
        have := (List.getElem?_eq_some_iff.mp hq2).1
        rw [B_il_len, hld8] at this
        rw [hv, if_pos ⟨rfl, by omega, by omega⟩]
        exact (congrArg (S4.2.1 5) (by omega)).trans (x2 q w hq2)
    have hbu : ∀ s ∈ V_us (h + 1) l, (s : Int) < B_cs j := fun s hs => ha.1.lt (huin s hs)
    have hym : y ∈ l.tail := by
      have e1 : l = l.take 4 ++ y :: r := by rw [← hd, List.take_append_drop]
      cases hl0 : l with
      | nil => rw [hl0, List.length_nil] at h9; omega
      | cons a r2 =>
        rw [hl0] at e1
        have e2 : r2 = List.take 3 r2 ++ y :: r := (List.cons.inj e1).2
        show y ∈ r2
        rw [e2]
        exact List.mem_append_right _ List.mem_cons_self
    have hyu : V_s y.1 ∈ V_us (h + 1) l := List.mem_append_left _ (List.mem_map.mpr ⟨y, hym, rfl⟩)
    have hye : B_eg S8 (V_s y.1) (V_e y.1) := (hD.2.2.1 y hym).ag ha.uu (hbu _ hyu) gg (savG _)
    refine hq nr (V_s y.1) j i1 FS us FN1 (nr :: ns) S8 M81 y r hd t8 (f4.tr (f8.c j i1)) (gV.tr (g8.up (V_A.of (fun m hm => B_mA_nav (n := nr) fun z => hnr (z ▸ hRin m hm)) (fun s _ => B_mA_sav nr s) fun q => ⟨fun z => ?_, fun z => ?_⟩) fun k z => z.elim)) a8 ?_ hnsp ?_ ?_ hye (by rw [hS8]; exact z17) (by rw [hS8]; exact z16)
    · have := z.1; omega
    · have := z.1; omega
    · exact hpu.trans (List.Perm.append_right _ (V_us_cut hd))
    · exact hD.re ha.ln ha.uu (fun m hm => ha.2.1.lt (hkin m hm)) hbu gg hno2 lt4 cm1 cm3 (fun m hm => navG m (hkin m hm) (hnk m hm)) fun s _ => savG s
    · exact hD.re ha.ln ha.uu (fun m hm => ha.2.1.lt (hkin m hm)) hbu gg hno3 ld4 cm2 cm4 (fun m hm => navG m (hkin m hm) (hnk m hm)) fun s _ => savG s
end CSPM
