/-! TREES OF THE CLASS: all of a tree's slots and nodes -/
def B_all (S : B_S) (j i : Nat) (FS us FN ns : List Nat) (w1 w2 : Int) : Prop := B_sl S j FS us ∧ B_nd S i FN ns ∧ (S.2.2 12 = w1 ∧ S.2.2 13 = w2 ∧ I_w w1 ∧ I_w w2) ∧ S.1 10 = 16 ∧ S.1 11 = 16
def B_Fc (t : Nat) (j i j1 i1 : Nat) (M M1 : g_M) : Prop := B_F t (B_ws j1 + B_wn i1 - (B_ws j + B_wn i)) (3 * j1 + 5 * i1 - (3 * j + 5 * i)) M M1 ∧ j ≤ j1 ∧ i ≤ i1
theorem B_Fc.tr {t j i j1 i1 j2 i2 : Nat} {M M1 M2 : g_M} (h : B_Fc t j i j1 i1 M M1) (h2 : B_Fc t j1 i1 j2 i2 M1 M2) : B_Fc t j i j2 i2 M M2 := by
  have := h.1.tr h2.1
  refine ⟨?_, Nat.le_trans h.2.1 h2.2.1, Nat.le_trans h.2.2 h2.2.2⟩
  rw [show B_ws j2 + B_wn i2 - (B_ws j + B_wn i) = B_ws j1 + B_wn i1 - (B_ws j + B_wn i) + (B_ws j2 + B_wn i2 - (B_ws j1 + B_wn i1)) by omega, show (3 * (j2 : Int) + 5 * i2 - (3 * j + 5 * i)) = 3 * (j1 : Int) + 5 * i1 - (3 * j + 5 * i) + (3 * j2 + 5 * i2 - (3 * j1 + 5 * i1)) by omega]
  exact this
theorem B_F.c {t : Nat} {M M1 : g_M} (h : B_F t 0 0 M M1) (j i : Nat) : B_Fc t j i j i M M1 := ⟨by rw [Int.sub_self, Int.sub_self]; exact h, Nat.le_refl _, Nat.le_refl _⟩
theorem B_sl.pm {S : B_S} {j : Nat} {FS us us2 : List Nat} (h : B_sl S j FS us) (hp : us.Perm us2) : B_sl S j FS us2 := ⟨h.1, h.2.1, h.2.2.1, (List.Perm.append_left _ hp.symm).trans h.2.2.2⟩
theorem B_nd.pm {S : B_S} {i : Nat} {FN ns ns2 : List Nat} (h : B_nd S i FN ns) (hp : ns.Perm ns2) : B_nd S i FN ns2 := ⟨h.1, h.2.1, h.2.2.1, (List.Perm.append_left _ hp.symm).trans h.2.2.2⟩
theorem B_sl.nd {S : B_S} {j : Nat} {FS us : List Nat} (h : B_sl S j FS us) : us.Nodup := (List.nodup_append.mp (h.2.2.2.nodup_iff.mpr List.nodup_range)).2.1
theorem B_nd.nd {S : B_S} {i : Nat} {FN ns : List Nat} (h : B_nd S i FN ns) : ns.Nodup := (List.nodup_append.mp (h.2.2.2.nodup_iff.mpr List.nodup_range)).2.1
section BALL
variable {S S1 : B_S} {j i : Nat} {FS us FN ns : List Nat} {w1 w2 : Int} {A : Nat → Int → Prop} {G : Int → Prop}
theorem B_all.cx (h : B_all S j i FS us FN ns w1 w2) : B_cx S j (B_cn i) w1 w2 := ⟨h.2.1.ln, ⟨h.1.1.1, h.1.1.2.1, h.1.1.2.2.2⟩, h.2.2⟩
theorem B_all.uu (h : B_all S j i FS us FN ns w1 w2) : B_us S (B_cs j) := h.1.us
theorem B_all.ln (h : B_all S j i FS us FN ns w1 w2) : B_ln S (B_cn i) := h.2.1.ln
theorem B_all.pm {us2 ns2 : List Nat} (h : B_all S j i FS us FN ns w1 w2) (h1 : us.Perm us2) (h2 : ns.Perm ns2) : B_all S j i FS us2 FN ns2 w1 w2 := ⟨h.1.pm h1, h.2.1.pm h2, h.2.2⟩
theorem B_sl.ag (h : B_sl S j FS us) (g : B_ag A G S S1) (e : ∀ k, k < 3 → S1.1 k = S.1 k) (h2 : ∀ q, ¬ A 2 q) (h3 : ¬ G 3) : B_sl S1 j FS us := by
  obtain ⟨⟨a1, a2, a3, a4⟩, b, c, d⟩ := h
  have hl := d.length_eq
  rw [List.length_append, List.length_range] at hl
  have hcs := B_cs_le ⟨j, by omega⟩
  simp only at hcs
  refine ⟨⟨by rw [e 0 (by decide)]; exact a1, by rw [e 1 (by decide)]; exact a2, by rw [e 2 (by decide)]; exact a3, a4⟩, by rw [g.2.2 3 h3]; exact b, b_at_keep c fun q q1 q2 => ?_, d⟩
  rw [B_il_len] at q2
  exact g.2.1 2 q (h2 q) q1 (by omega)
theorem B_nd.ag (h : B_nd S i FN ns) (g : B_ag A G S S1) (e : ∀ k, 4 ≤ k → k < 9 → S1.1 k = S.1 k) (h2 : ∀ q, ¬ A 8 q) (h3 : ¬ G 9) : B_nd S1 i FN ns := by
  obtain ⟨⟨a1, a2, a3, a4, a5, a6⟩, b, c, d⟩ := h
  have hl := d.length_eq
  rw [List.length_append, List.length_range] at hl
  have hcs := B_cn_le ⟨i, by omega⟩
  simp only at hcs
  refine ⟨⟨by rw [e 4 (by decide) (by decide)]; exact a1, by rw [e 5 (by decide) (by decide)]; exact a2, by rw [e 6 (by decide) (by decide)]; exact a3, by rw [e 7 (by decide) (by decide)]; exact a4, by rw [e 8 (by decide) (by decide)]; exact a5, a6⟩, by rw [g.2.2 9 h3]; exact b, b_at_keep c fun q q1 q2 => ?_, d⟩
  rw [B_il_len] at q2
  exact g.2.1 8 q (h2 q) q1 (by omega)
theorem B_all.ag (h : B_all S j i FS us FN ns w1 w2) (g : B_ag A G S S1) (e : S1.1 = S.1) (h2 : ∀ q, ¬ A 2 q) (h8 : ∀ q, ¬ A 8 q) (g3 : ¬ G 3) (g9 : ¬ G 9) (g12 : ¬ G 12) (g13 : ¬ G 13) : B_all S1 j i FS us FN ns w1 w2 := by
  obtain ⟨a, b, ⟨c1, c2, c3⟩, d1, d2⟩ := h
  exact ⟨a.ag g (fun k _ => by rw [e]) h2 g3, b.ag g (fun k _ _ => by rw [e]) h8 g9, ⟨by rw [g.2.2 12 g12]; exact c1, by rw [g.2.2 13 g13]; exact c2, c3⟩, by rw [e]; exact d1, by rw [e]; exact d2⟩
end BALL
section BALC
variable {d t j i : Nat} {S : B_S} {M : g_M} {FS us FN ns : List Nat} {w1 w2 : Int}
theorem c_newSlotA {Q : Int → g_M → Prop} (h : B_t t S M) (ha : B_all S j i FS us FN ns w1 w2) (hu : us.length < 1369) (hq : ∀ (s j1 : Nat) FS1 S1 M1, B_t t S1 M1 → B_Fc t j i j1 i M M1 → B_ag (fun k _ => k = 2) (fun k => k = 3) S S1 → B_all S1 j1 i FS1 (s :: us) FN ns w1 w2 → (∀ k : Nat, 3 ≤ k → g_r M1 t k = g_r M t k) → Q s M1) : g_Call (d + 2) 174 [.ref t] M (g_qI Q) := by
  obtain ⟨a, b, ⟨c1, c2, c3⟩, d1, d2⟩ := ha
  refine c_newSlot h a hu fun s j1 FS1 S1 M1 k1 k2 k3 k4 k5 k6 k7 => hq s j1 FS1 S1 M1 k2 ⟨?_, k1, Nat.le_refl _⟩ k4 ⟨k6, b.ag k4 (fun k z _ => k5 k (by omega)) (fun _ => by decide) (by decide), ⟨by rw [k4.2.2 12 (by decide)]; exact c1, by rw [k4.2.2 13 (by decide)]; exact c2, c3⟩, by rw [k5 10 (by decide)]; exact d1, by rw [k5 11 (by decide)]; exact d2⟩ k7
  rw [show B_ws j1 + B_wn i - (B_ws j + B_wn i) = B_ws j1 - B_ws j by omega, show (3 * (j1 : Int) + 5 * i - (3 * j + 5 * i)) = 3 * j1 - 3 * j by omega]
  exact k3
theorem c_freeSlotA {Q : g_M → Prop} {s : Nat} {u : List Nat} (h : B_t t S M) (ha : B_all S j i FS us FN ns w1 w2) (hp : us.Perm (s :: u)) (hq : ∀ S1 M1, B_t t S1 M1 → B_F t 0 0 M M1 → B_ag (fun k _ => k = 2) (fun k => k = 3) S S1 → S1.1 = S.1 → B_all S1 j i (FS ++ [s]) u FN ns w1 w2 → Q M1) : g_Call (d + 1) 175 [.ref t, g_n s] M (g_qV Q) := by
  obtain ⟨a, b, ⟨c1, c2, c3⟩, d1, d2⟩ := ha
  refine c_freeSlot (u1 := []) (u2 := u) h (a.pm hp) fun S1 M1 k1 k2 k3 k4 k5 => hq S1 M1 k1 k2 k3 k4 ⟨k5, b.ag k3 (fun k _ _ => by rw [k4]) (fun _ => by decide) (by decide), ⟨by rw [k3.2.2 12 (by decide)]; exact c1, by rw [k3.2.2 13 (by decide)]; exact c2, c3⟩, by rw [k4]; exact d1, by rw [k4]; exact d2⟩
theorem c_newNodeA {Q : Int → g_M → Prop} {v : Int} (h : B_t t S M) (ha : B_all S j i FS us FN ns w1 w2) (hu : ns.length < 454) (hv : v = 0 ∨ v = 1) (h16 : 0 ≤ S.2.2 16 ∧ S.2.2 16 ≤ 1000) (h17 : 0 ≤ S.2.2 17 ∧ S.2.2 17 ≤ 1000) (hq : ∀ (n i1 : Nat) FN1 S1 M1, B_t t S1 M1 → B_Fc t j i j i1 M M1 → B_ag (B_nA n) B_nG S S1 → B_all S1 j i1 FS us FN1 (n :: ns) w1 w2 → S1.2.1 6 n = 0 → S1.2.1 7 n = v → S1.2.2 17 = S.2.2 17 + 1 → S1.2.2 16 = S.2.2 16 + v → Q n M1) : g_Call (d + 2) 176 [.ref t, g_n v] M (g_qI Q) := by
  obtain ⟨a, b, ⟨c1, c2, c3⟩, d1, d2⟩ := ha
  have nG : ∀ k : Int, k ≠ 9 → k ≠ 16 → k ≠ 17 → ¬ B_nG k := fun k z1 z2 z3 z => by rcases z with z | z | z <;> omega
  refine c_newNode h b hu hv h16 h17 fun n i1 FN1 S1 M1 k1 k2 k3 k4 k5 k6 k7 k8 k9 k10 => hq n i1 FN1 S1 M1 k2 ⟨?_, Nat.le_refl _, k1⟩ k4 ⟨a.ag k4 (fun k z => k5 k (by omega)) (fun q z => by rcases z with z | ⟨z, -⟩ <;> omega) (nG 3 (by decide) (by decide) (by decide)), k6, ⟨by rw [k4.2.2 12 (nG 12 (by decide) (by decide) (by decide))]; exact c1, by rw [k4.2.2 13 (nG 13 (by decide) (by decide) (by decide))]; exact c2, c3⟩, by rw [k5 10 (by decide)]; exact d1, by rw [k5 11 (by decide)]; exact d2⟩ k7 k8 k9 k10
  rw [show B_ws j + B_wn i1 - (B_ws j + B_wn i) = B_wn i1 - B_wn i by omega, show (3 * (j : Int) + 5 * i1 - (3 * j + 5 * i)) = 5 * i1 - 5 * i by omega]
  exact k3
theorem c_freeNodeA {Q : g_M → Prop} {n : Nat} {u : List Nat} {v : Int} (h : B_t t S M) (ha : B_all S j i FS us FN ns w1 w2) (hp : ns.Perm (n :: u)) (hv : S.2.1 7 n = v) (hv01 : v = 0 ∨ v = 1) (h16 : 0 ≤ S.2.2 16 ∧ S.2.2 16 ≤ 1000) (h17 : 0 ≤ S.2.2 17 ∧ S.2.2 17 ≤ 1000) (hq : ∀ S1 M1, B_t t S1 M1 → B_F t 0 0 M M1 → B_ag (fun k _ => k = 8) B_nG S S1 → S1.1 = S.1 → B_all S1 j i FS us (FN ++ [n]) u w1 w2 → S1.2.2 17 = S.2.2 17 - 1 → S1.2.2 16 = S.2.2 16 - v → Q M1) : g_Call (d + 1) 177 [.ref t, g_n n] M (g_qV Q) := by
  obtain ⟨a, b, ⟨c1, c2, c3⟩, d1, d2⟩ := ha
  have nG : ∀ k : Int, k ≠ 9 → k ≠ 16 → k ≠ 17 → ¬ B_nG k := fun k z1 z2 z3 z => by rcases z with z | z | z <;> omega
  refine c_freeNode (u1 := []) (u2 := u) h (b.pm hp) hv hv01 h16 h17 fun S1 M1 k1 k2 k3 k4 k5 k6 k7 => hq S1 M1 k1 k2 k3 k4 ⟨a.ag k3 (fun k _ => by rw [k4]) (fun _ => by decide) (nG 3 (by decide) (by decide) (by decide)), k5, ⟨by rw [k3.2.2 12 (nG 12 (by decide) (by decide) (by decide))]; exact c1, by rw [k3.2.2 13 (nG 13 (by decide) (by decide) (by decide))]; exact c2, c3⟩, by rw [k4]; exact d1, by rw [k4]; exact d2⟩ k6 k7
/-- a mark that is like an entry -/
def B_lA (s : Nat) (k : Nat) (q : Int) : Prop := k = 2 ∨ B_sA s k q
theorem B_lA_nav (s m : Nat) : B_nav (B_lA s) m := by
  obtain ⟨a1, a2, a3⟩ := B_sA_nav s m
  refine ⟨fun q q1 q2 => ⟨fun z => ?_, fun z => ?_⟩, fun z => ?_, fun z => ?_⟩
  · exact z.elim (fun z => by omega) (a1 q q1 q2).1
  · exact z.elim (fun z => by omega) (a1 q q1 q2).2
  · exact z.elim (fun z => by omega) a2
  · exact z.elim (fun z => by omega) a3
theorem B_lA_sav {s s2 : Nat} (h : s2 ≠ s) : B_sav (B_lA s) s2 := by
  obtain ⟨a1, a2⟩ := B_sA_sav h
  exact ⟨fun q q1 q2 z => z.elim (fun z => by omega) (a1 q q1 q2), fun z => z.elim (fun z => by omega) a2⟩
theorem c_markLike {Q : Int → g_M → Prop} {s : Nat} {e : I_E} (h : B_t t S M) (ha : B_all S j i FS us FN ns w1 w2) (hu : us.length < 1369) (hs : s ∈ us) (he : B_eg S s e) (hq : ∀ (m j1 : Nat) FS1 S1 M1, B_t t S1 M1 → B_Fc t j i j1 i M M1 → B_ag (B_lA m) (fun k => k = 3) S S1 → B_all S1 j1 i FS1 (m :: us) FN ns w1 w2 → B_eg S1 m e → (∀ k : Nat, 3 ≤ k → g_r M1 t k = g_r M t k) → Q m M1) : g_Call (d + 3) 179 [.ref t, g_n s] M (g_qI Q) := by
  have hsl := ha.1.lt hs
  have hcs := B_cs_le ⟨j, by have := ha.1.1.2.2.2; omega⟩
  simp only at hcs
  refine m_X10_markLike ⟨by omega, by omega⟩ fun _ => ⟨h.1, c_newSlotA (d := d) h ha hu fun m j1 FS1 S1 M1 b1 f1 g1 a1 hr1 => ?_⟩
  intro _ _ _
  have hnd := a1.1.nd
  have hms : s ≠ m := fun z => (List.nodup_cons.mp hnd).1 (z ▸ hs)
  have hml := a1.1.lt List.mem_cons_self
  have hsl1 := a1.1.lt (List.mem_cons_of_mem _ hs)
  have hcs1 := B_cs_le ⟨j1, by have := a1.1.1.2.2.2; omega⟩
  simp only at hcs1
  have he1 := he.ag ha.uu hsl g1 (B_2_sav s)
  obtain ⟨l0, l1, -⟩ := a1.uu
  obtain ⟨ky, k1, k2, -⟩ := b1.at (k := 0) (by decide)
  have k2 : g_A M1 ky 0 (S1.1 0) := k2
  refine ⟨ky, k1, ⟨by omega, by omega⟩, ky, k1, ⟨by omega, by omega⟩, S1.1 0, k2, S1.1 0, k2, ⟨by omega, by omega, by omega, by omega, by omega⟩, fun M18 e18 _ => ?_⟩
  obtain ⟨b18, f18⟩ := b1.cpy (k := 0) (k1 := 0) (sp := (s : Int) * 132) (dp := (m : Int) * 132) (n := 132) (by decide) (by decide) k1 k1 (by omega) (by omega)
  rw [← e18] at b18 f18
  obtain ⟨nu, n1, n2, n3⟩ := b18.at (k := 1) (by decide)
  have n2 : g_A M18 nu 1 (S1.1 1) := n2
  have hnv : g_i M18 nu s = e.2.2 := by
    rw [n3 _ (by omega) (by show (s : Int) < S1.1 1; omega), B_cp_v, if_neg (by omega)]
    exact he1.1.2.2
  refine ⟨nu, n1, nu, n1, S1.1 1, n2, ⟨by omega, by omega⟩, S1.1 1, n2, ⟨by omega, by omega⟩, ?_⟩
  rw [hnv]
  intro M32 e32 _
  obtain ⟨b32, f32⟩ := b18.set (k := 1) (by decide) n1 (m : Int) e.2.2
  rw [← e32] at b32 f32
  obtain ⟨S2, hS2⟩ : ∃ S2, S2 = B_set (B_cp S1 0 0 ((s : Int) * 132) ((m : Int) * 132) 132) 1 m e.2.2 := ⟨_, rfl⟩
  rw [← hS2] at b32
  have hv : ∀ (k2 : Nat) (q : Int), S2.2.1 k2 q = if k2 = 1 ∧ q = m then e.2.2 else if k2 = 0 ∧ (m : Int) * 132 ≤ q ∧ q < (m : Int) * 132 + 132 then S1.2.1 0 ((s : Int) * 132 + (q - (m : Int) * 132)) else S1.2.1 k2 q := fun k2 q => by
    rw [hS2, B_set_v, B_cp_v]
  have g2 : B_ag (B_sA m) (fun _ => False) S1 S2 := ⟨fun k2 => by rw [hS2]; exact Int.le_refl _, fun k2 q hA _ _ => by
    rw [hv, if_neg fun z => hA (Or.inr z), if_neg fun z => hA (Or.inl ⟨z.1, by omega, by omega⟩)], fun k2 _ => by rw [hS2]; rfl⟩
  have l1e := b_el_len e.1.1 [] e.1.2
  have l2e := b_el_len e.2.1.1 [] e.2.1.2
  rw [List.length_nil] at l1e l2e
  have hg1 := he.2.1.2
  have hg2 := he.2.2.1.2
  refine hq m j1 FS1 S2 M32 b32 (f1.tr ((f18.tr0 f32).c j1 i)) ((g1.up (fun k q z => Or.inl z) fun k z => z).tr (g2.up (fun k q z => Or.inr z) fun k z => z.elim)) (a1.ag g2 (by rw [hS2]; rfl) (fun q z => by rcases z with ⟨z, -⟩ | ⟨z, -⟩ <;> omega) (fun q z => by rcases z with ⟨z, -⟩ | ⟨z, -⟩ <;> omega) (fun z => z) (fun z => z) (fun z => z) fun z => z) ⟨⟨fun q w hq2 => ?_, fun q w hq2 => ?_, ?_⟩, he.2⟩ fun k hk => ?_
  · have := (List.getElem?_eq_some_iff.mp hq2).1
    rw [hv, if_neg (by omega), if_pos ⟨rfl, by omega, by omega⟩]
    exact (congrArg (S1.2.1 0) (by omega)).trans (he1.1.1 q w hq2)
  · have := (List.getElem?_eq_some_iff.mp hq2).1
    rw [hv, if_neg (by omega), if_pos ⟨rfl, by omega, by omega⟩]
    exact (congrArg (S1.2.1 0) (by omega)).trans (he1.1.2.1 q w hq2)
  · rw [hv, if_pos ⟨rfl, rfl⟩]
  · rw [e32, g_r_wi, e18, g_r_cp]
    exact hr1 k hk
end BALC
