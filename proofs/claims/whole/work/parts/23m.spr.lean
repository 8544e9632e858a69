/-! TREES OF THE CLASS: the root is split -/
section CSPR
variable {d t j i : Nat} {w1 w2 : Int} {FS us FN ns R R' : List Nat}
def V_G5 (k : Int) : Prop := V_G4 k ∨ k = 14
theorem c_splitR {Q : g_M → Prop} {h n : Nat} {l : List (N_i V_W h)} {S : B_S} {M : g_M} (hB : B_t t S M) (ha : B_all S j i FS us FN ns w1 w2) (hD : C_D S h n l) (h9 : l.length = 9) (hpu : us.Perm (V_us h l ++ R)) (hpn : ns.Perm (V_ns h n l ++ R')) (hw : S.2.1 10 0 = n) (hu : us.length < 1369) (hnl : ns.length < 453) (h16 : 0 ≤ S.2.2 16 ∧ S.2.2 16 ≤ 990) (h17 : 0 ≤ S.2.2 17 ∧ S.2.2 17 ≤ 990) (hq : ∀ (nn nr ms j1 i1 : Nat) (FS1 us1 FN1 ns1 : List Nat) (S1 : B_S) (M1 : g_M) (y : N_i V_W h) (r : List (N_i V_W h)), l.drop 4 = y :: r → B_t t S1 M1 → B_Fc t j i j1 i1 M M1 → B_ag (V_A R' R) V_G5 S S1 → B_all S1 j1 i1 FS1 us1 FN1 ns1 w1 w2 → us1.Perm (V_us (h + 1) [N_mk h ((ms, n), V_e (N_f h y)) (l.take 4), N_mk h ((ms, nr), V_e (N_f h y)) (l.drop 4)] ++ R) → ns1.Perm (V_ns (h + 1) nn [N_mk h ((ms, n), V_e (N_f h y)) (l.take 4), N_mk h ((ms, nr), V_e (N_f h y)) (l.drop 4)] ++ R') → C_D S1 (h + 1) nn [N_mk h ((ms, n), V_e (N_f h y)) (l.take 4), N_mk h ((ms, nr), V_e (N_f h y)) (l.drop 4)] → S1.2.2 14 = nn → S1.2.2 17 = S.2.2 17 + 2 → S1.2.2 16 = S.2.2 16 + V_f h → Q M1) : g_Call (d + 46) 186 [.ref t, g_n 0] M (g_qV Q) := by
  have hf : 0 ≤ V_f h ∧ V_f h ≤ 1 := by
    unfold V_f
    split <;> decide
  have hq0 := c_split1 (d := d) (lv := 0) (Q := Q) hB ha hD h9 hpu hpn hw (by decide) hu (by omega) (by omega) (by omega) fun nr ms j1 i1 FS1 us1 FN1 ns1 S1 M1 y r hd t1 f1 g1 a1 pu1 pn1 D1 D2 e1 k17 k16 => by
    have hnm : n ∈ ns1 := pn1.mem_iff.mpr (List.mem_append_left _ (List.mem_append_left _ (V_ns_m h n _)))
    have hnrm : nr ∈ ns1 := pn1.mem_iff.mpr (List.mem_append_left _ (List.mem_append_right _ (V_ns_m h nr _)))
    have hmsm : ms ∈ us1 := pu1.mem_iff.mpr (List.mem_append_left _ List.mem_cons_self)
    have hnlt := a1.2.1.lt hnm
    have hnrlt := a1.2.1.lt hnrm
    have hmsl := a1.1.lt hmsm
    have hcs1 := B_cs_le ⟨j1, by have := a1.1.1.2.2.2; omega⟩
    have hcn1 := B_cn_le ⟨i1, by have := a1.2.1.1.2.2.2.2.2; omega⟩
    simp only at hcs1 hcn1
    have hl1 := pn1.length_eq
    have hl0 := hpn.length_eq
    have hns1 : ns1.length = ns.length + 1 := by
      rw [hl1, hl0, V_ns_e h n l, V_ns_e h n (l.take 4), V_ns_e h nr (l.drop 4), V_nk_cut h l]
      simp only [List.length_append, List.length_cons]
      omega
    refine s_X10_split_133 ⟨by decide, by decide⟩ ⟨by omega, by omega⟩ ⟨by omega, by omega⟩ ⟨by omega, by omega⟩ ⟨by decide, by decide⟩ ⟨by omega, by omega⟩ fun _ => ⟨fun _ => ⟨t1.1, ?_⟩, fun z => absurd rfl z⟩
    refine c_newNodeA (d := d + 43) (v := 0) t1 a1 (by omega) (Or.inl rfl) (by omega) (by omega) fun nn i2 FN2 S2 M2 t2 f2 g2 a2 x6 x7 x17 x16 => ?_
    intro _ _ _ M56 e56 _
    have hnn : nn ∉ ns1 := (List.nodup_cons.mp a2.2.1.nd).1
    have hnnl := a2.2.1.lt (n := nn) List.mem_cons_self
    obtain ⟨t3, f3⟩ := t2.fld 14 (nn : Int)
    rw [← e56] at t3 f3
    have a3 : B_all (B_fld S2 14 nn) j1 i2 FS1 us1 FN2 (nn :: ns1) w1 w2 := a2.ag (A := fun _ _ => False) (G := fun k => k = 14) (B_ag.fld _ _ _ _ _ rfl) rfl (fun _ z => z) (fun _ z => z) (by decide) (by decide) (by decide) (by decide)
    have h14 : g_i M56 t 14 = nn := by rw [t3.2.1 14, B_fld_v, if_pos rfl]
    rw [h14]
    have no3 : B_no (B_fld S2 14 nn) nn 0 [] [] := ⟨by rw [B_fld_r]; exact x7, by rw [B_fld_r]; exact x6, b_nil _ _, b_nil _ _⟩
    refine c_insertKid (d := d + 44) (N := B_cn i2) (A := []) (B := []) (k := n) t3 a3.ln hnnl no3 (by decide) (by omega) (by decide) fun S4 M4 t4 f4 g4 e4 no4 => ?_
    intro _ _
    have h144 : g_i M4 t 14 = nn := by rw [t4.2.1 14, g4.2.2 14 fun z => z, B_fld_v, if_pos rfl]
    rw [h144]
    have a4 := a3.ag g4 e4 (fun q z => by rcases z with ⟨z, -⟩ | ⟨z, -⟩ <;> omega) (fun q z => by rcases z with ⟨z, -⟩ | ⟨z, -⟩ <;> omega) (fun z => z) (fun z => z) (fun z => z) fun z => z
    refine c_insertKid (d := d + 44) (N := B_cn i2) (A := [n]) (B := []) (k := nr) t4 a4.ln hnnl no4 (by simp) (by omega) (by decide) fun S5 M5 t5 f5 g5 e5 no5 => ?_
    intro _ _
    have a5 := a4.ag g5 e5 (fun q z => by rcases z with ⟨z, -⟩ | ⟨z, -⟩ <;> omega) (fun q z => by rcases z with ⟨z, -⟩ | ⟨z, -⟩ <;> omega) (fun z => z) (fun z => z) (fun z => z) fun z => z
    obtain ⟨mk, m1, m2, -⟩ := t5.at (k := 5) (by decide)
    have m2 : g_A M5 mk 1 (S5.1 5) := m2
    have h145 : g_i M5 t 14 = nn := by rw [t5.2.1 14, g5.2.2 14 fun z => z, g4.2.2 14 fun z => z, B_fld_v, if_pos rfl]
    rw [h145]
    obtain ⟨l4, l5, l6, l7, lN⟩ := a5.ln
    refine ⟨mk, m1, ⟨by omega, by omega⟩, S5.1 5, m2, ⟨by omega, by omega⟩, fun M6 e6 _ => ?_⟩
    obtain ⟨t6, f6⟩ := t5.set (k := 5) (by decide) m1 ((nn : Int) * 9) (ms : Int)
    rw [← e6] at t6 f6
    have g6 : B_ag (B_mA nn) B_0 S5 (B_set S5 5 ((nn : Int) * 9) ms) := B_ag.set _ _ _ _ _ _ ⟨rfl, by omega, by omega⟩
    have a6 := a5.ag g6 rfl (fun q z => by have := z.1; omega) (fun q z => by have := z.1; omega) (fun z => z) (fun z => z) (fun z => z) fun z => z
    obtain ⟨S6, hS6⟩ : ∃ S6, S6 = B_set S5 5 ((nn : Int) * 9) ms := ⟨_, rfl⟩
    rw [← hS6] at t6 g6 a6
    have no6 : B_no S6 nn 0 [n, nr] [ms] := by
      obtain ⟨b1, b2, b3, b4⟩ := no5
      refine ⟨?_, ?_, b_at_keep b3 fun q _ _ => ?_, b_cons.mpr ⟨?_, b_nil _ _⟩⟩
      · rw [hS6, B_set_v, if_neg (by omega)]
        exact b1
      · rw [hS6, B_set_v, if_neg (by omega)]
        exact b2
      · rw [hS6, B_set_v, if_neg (by omega)]
      · rw [hS6, B_set_v, if_pos ⟨rfl, by omega⟩]
    -- all from the halves on
    have G : B_ag (fun k q => B_nA nn k q ∨ B_kA nn k q ∨ B_mA nn k q) V_G5 S1 S6 := by
      have h1 : B_ag (fun k q => B_nA nn k q ∨ B_kA nn k q ∨ B_mA nn k q) V_G5 S1 S2 := g2.up (fun k q z => Or.inl z) fun k z => by
        rcases z with z | z | z
        · exact Or.inl (Or.inr (Or.inl z))
        · exact Or.inl (Or.inr (Or.inr (Or.inl z)))
        · exact Or.inl (Or.inr (Or.inr (Or.inr z)))
      exact (((h1.tr (B_ag.fld _ _ _ _ _ (Or.inr rfl))).tr (g4.up (fun k q z => Or.inr (Or.inl z)) fun k z => z.elim)).tr (g5.up (fun k q z => Or.inr (Or.inl z)) fun k z => z.elim)).tr (g6.up (fun k q z => Or.inr (Or.inr z)) fun k z => z.elim)
    have nav : ∀ m, m ≠ nn → B_nav (fun k q => B_nA nn k q ∨ B_kA nn k q ∨ B_mA nn k q) m := fun m hm => by
      obtain ⟨b1, b2, b3⟩ := B_nA_nav hm
      obtain ⟨c1, c2, c3⟩ := B_kA_nav hm
      obtain ⟨d1, d2, d3⟩ := B_mA_nav hm
      exact ⟨fun q q1 q2 => ⟨fun z => z.elim (b1 q q1 q2).1 fun z => z.elim (c1 q q1 q2).1 (d1 q q1 q2).1, fun z => z.elim (b1 q q1 q2).2 fun z => z.elim (c1 q q1 q2).2 (d1 q q1 q2).2⟩, fun z => z.elim b2 fun z => z.elim c2 d2, fun z => z.elim b3 fun z => z.elim c3 d3⟩
    have sav : ∀ s, B_sav (fun k q => B_nA nn k q ∨ B_kA nn k q ∨ B_mA nn k q) s := fun s => by
      obtain ⟨b1, b2⟩ := B_nA_sav nn s
      obtain ⟨c1, c2⟩ := B_kA_sav nn s
      obtain ⟨d1, d2⟩ := B_mA_sav nn s
      exact ⟨fun q q1 q2 z => z.elim (b1 q q1 q2) fun z => z.elim (c1 q q1 q2) (d1 q q1 q2), fun z => z.elim b2 fun z => z.elim c2 d2⟩
    have way : ∀ q : Int, ¬ (B_nA nn 10 q ∨ B_kA nn 10 q ∨ B_mA nn 10 q) ∧ ¬ (B_nA nn 11 q ∨ B_kA nn 11 q ∨ B_mA nn 11 q) := fun q => by
      constructor
      · rintro (z | z | z)
        · rcases z with z | ⟨z, -⟩ <;> omega
        · rcases z with ⟨z, -⟩ | ⟨z, -⟩ <;> omega
        · have := z.1; omega
      · rintro (z | z | z)
        · rcases z with z | ⟨z, -⟩ <;> omega
        · rcases z with ⟨z, -⟩ | ⟨z, -⟩ <;> omega
        · have := z.1; omega
    have hkeep : ∀ (m : Nat) (C : List (N_i V_W h)), C_D S1 h m C → (∀ k ∈ V_ns h m C, k ∈ ns1) → (∀ s ∈ V_us h C, s ∈ us1) → C_D S6 h m C := fun m C hC h1 h3 => hC.ag a1.ln a1.uu (fun k hk => a1.2.1.lt (h1 k hk)) (fun s hs => a1.1.lt (h3 s hs)) G (fun k hk => nav k fun z => hnn (z ▸ h1 k hk)) fun s _ => sav s
    have fG : ∀ k : Int, k ≠ 9 → k ≠ 16 → k ≠ 17 → ¬ B_nG k := fun k z1 z2 z3 z => by rcases z with z | z | z <;> omega
    refine hq nn nr ms j1 i2 FS1 us1 FN2 (nn :: ns1) S6 M6 y r hd t6 (f1.tr (f2.tr ((((f3.tr0 f4).tr0 f5).tr0 f6).c j1 i2))) ((g1.up (fun k q z => z) fun k z => Or.inl z).tr (G.up (V_A.of (fun m hm => nav m fun z => hnn (z ▸ pn1.mem_iff.mpr (List.mem_append_right _ hm))) (fun s _ => sav s) way) fun k z => z)) a6 ?_ ?_ (C_D_s.mpr ⟨?_, by simp, fun z hz => ?_, fun z hz => ?_⟩) ?_ ?_ ?_
    · refine pu1.trans (List.perm_iff_count.mpr fun a => ?_)
      rw [V_us_k, V_uk_c, V_uk_c]
      show _ = List.count a ([ms] ++ (V_us h (List.take 4 l) ++ (V_us h (List.drop 4 l) ++ [])) ++ R)
      simp only [List.count_append, List.count_cons, List.count_nil]
      omega
    · refine (List.Perm.cons nn pn1).trans (List.perm_iff_count.mpr fun a => ?_)
      rw [V_ns_e (h + 1), V_nk_c, V_nk_c]
      show _ = List.count a (nn :: (V_ns h n (List.take 4 l) ++ (V_ns h nr (List.drop 4 l) ++ [])) ++ R')
      simp only [List.count_append, List.count_cons, List.count_nil]
      omega
    · exact no6
    · have : z = N_mk h ((ms, nr), V_e (N_f h y)) (l.drop 4) := List.mem_singleton.mp hz
      subst this
      exact e1.ag a1.uu hmsl G (sav ms)
    · rcases List.mem_cons.mp hz with g | g
      · subst g
        exact hkeep n (l.take 4) D1 (fun k hk => pn1.mem_iff.mpr (List.mem_append_left _ (List.mem_append_left _ hk))) fun s hs => pu1.mem_iff.mpr (List.mem_append_left _ (List.mem_cons_of_mem _ (List.mem_append_left _ hs)))
      · have : z = N_mk h ((ms, nr), V_e (N_f h y)) (l.drop 4) := List.mem_singleton.mp g
        subst this
        exact hkeep nr (l.drop 4) D2 (fun k hk => pn1.mem_iff.mpr (List.mem_append_left _ (List.mem_append_right _ hk))) fun s hs => pu1.mem_iff.mpr (List.mem_append_left _ (List.mem_cons_of_mem _ (List.mem_append_right _ hs)))
    · rw [g6.2.2 14 fun z => z, g5.2.2 14 fun z => z, g4.2.2 14 fun z => z, B_fld_v, if_pos rfl]
    · rw [g6.2.2 17 fun z => z, g5.2.2 17 fun z => z, g4.2.2 17 fun z => z, B_fld_v, if_neg (by decide), x17, k17]
      omega
    · rw [g6.2.2 16 fun z => z, g5.2.2 16 fun z => z, g4.2.2 16 fun z => z, B_fld_v, if_neg (by decide), x16, k16]
      omega
  exact hq0
end CSPR
