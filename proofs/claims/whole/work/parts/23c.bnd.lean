/-! TREES OF THE CLASS: nodes are taken and given back -/
section BND
variable {d t i : Nat} {S : B_S} {M : g_M} {FN ns : List Nat}
theorem B_cp0 (M : g_M) (a b : Nat) : g_cp M a b 0 0 0 = M := by
  refine Prod.ext rfl (Prod.ext (funext fun x => funext fun j => ?_) rfl)
  show g_i (g_cp M a b 0 0 0) x j = g_i M x j
  rw [g_i_cp, if_neg (fun z => by omega)]
/-- one element more is copied -/
theorem B_cp1 (M : g_M) {a b : Nat} (h : a ≠ b) {q : Int} (hq : 0 ≤ q) : g_wi (g_cp M a b 0 0 q) b q (g_i (g_cp M a b 0 0 q) a q) = g_cp M a b 0 0 (q + 1) := by
  rw [g_i_cp, if_neg (fun z => h z.1)]
  refine Prod.ext rfl (Prod.ext (funext fun x => funext fun j => ?_) rfl)
  show g_i (g_wi (g_cp M a b 0 0 q) b q (g_i M a q)) x j = g_i (g_cp M a b 0 0 (q + 1)) x j
  rw [g_i_wi, g_i_cp, g_i_cp]
  by_cases hx : x = b
  · by_cases h1 : j = q
    · rw [if_pos ⟨hx, h1⟩, if_pos ⟨hx, by omega, by omega⟩, h1, show (0 : Int) + (q - 0) = q by omega]
    · rw [if_neg fun z => h1 z.2]
      by_cases h2 : 0 ≤ j ∧ j < q
      · rw [if_pos ⟨hx, by omega, by omega⟩, if_pos ⟨hx, by omega, by omega⟩]
      · rw [if_neg fun z => h2 ⟨z.2.1, by omega⟩, if_neg fun z => h2 ⟨z.2.1, by omega⟩]
  · rw [if_neg fun z => hx z.1, if_neg fun z => hx z.1, if_neg fun z => hx z.1]
def B_nA (n : Nat) (k : Nat) (q : Int) : Prop := k = 8 ∨ ((k = 6 ∨ k = 7) ∧ q = n)
def B_nG (k : Int) : Prop := k = 9 ∨ k = 16 ∨ k = 17
theorem c_popNode {Q : Int → g_M → Prop} {n : Nat} {v : Int} (h : B_t t S M) (hs : B_nd S i (FN ++ [n]) ns) (hv : v = 0 ∨ v = 1) (h16 : 0 ≤ S.2.2 16 ∧ S.2.2 16 ≤ 1000) (h17 : 0 ≤ S.2.2 17 ∧ S.2.2 17 ≤ 1000) (hq : ∀ S1 M1, B_t t S1 M1 → B_F t 0 0 M M1 → B_ag (B_nA n) B_nG S S1 → S1.1 = S.1 → B_nd S1 i FN (n :: ns) → S1.2.1 6 n = 0 → S1.2.1 7 n = v → S1.2.2 17 = S.2.2 17 + 1 → S1.2.2 16 = S.2.2 16 + v → Q n M1) : g_Run d 176 180 [(0, .ref t), (1, g_n v)] [] M (g_qI Q) := by
  obtain ⟨⟨l4, l5, l6, l7, l8, li⟩, h9, hat, hpm⟩ := id hs
  rw [List.length_append, List.length_singleton] at h9
  have hpl := hpm.length_eq
  have hcs := B_cn_le ⟨i, by omega⟩
  simp only at hcs
  rw [List.length_append, List.length_append, List.length_singleton, List.length_range] at hpl
  have hnm : n < (B_cn i).toNat := by
    have : n ∈ List.range (B_cn i).toNat := hpm.mem_iff.mp (by simp)
    exact List.mem_range.mp this
  refine s_X10_newNode_180 ⟨by omega, by omega⟩ fun _ => ⟨h.1, ?_⟩
  rw [h.2.1 9, h9]
  refine ⟨⟨by omega, by omega⟩, fun M3 e3 _ => ?_⟩
  obtain ⟨g1, g2⟩ := h.fld 9 (((FN.length + 1 : Nat) : Int) - 1)
  rw [← e3] at g1 g2
  obtain ⟨a, a1, a2, a3⟩ := g1.at (k := 8) (by decide)
  have a2 : g_A M3 a 1 (S.1 8) := a2
  have e9 : g_i M3 t 9 = FN.length := by
    rw [g1.2.1 9, B_fld_v, if_pos rfl]
    omega
  rw [e9]
  have hnv : g_i M3 a (FN.length : Int) = n := by
    rw [a3 _ (by omega) (by show (FN.length : Int) < S.1 8; omega)]
    show S.2.1 8 _ = _
    have := hat FN.length n (by unfold B_il; rw [List.getElem?_map, List.getElem?_append_right (Nat.le_refl _), Nat.sub_self]; rfl)
    rwa [Int.zero_add] at this
  obtain ⟨c, c1, c2, -⟩ := g1.at (k := 6) (by decide)
  have c2 : g_A M3 c 1 (S.1 6) := c2
  refine ⟨a, a1, S.1 8, a2, ⟨by omega, by omega⟩, ?_⟩
  rw [hnv]
  refine ⟨c, c1, S.1 6, c2, ⟨by omega, by omega⟩, fun M17 e17 _ => ?_⟩
  obtain ⟨t17, f17⟩ := g1.set (k := 6) (by decide) c1 (n : Int) 0
  rw [← e17] at t17 f17
  obtain ⟨b, b1, b2, -⟩ := t17.at (k := 7) (by decide)
  have b2 : g_A M17 b 2 (S.1 7) := b2
  refine ⟨b, b1, S.1 7, b2, ⟨by omega, by omega⟩, hv, fun M27 e27 _ => ?_⟩
  obtain ⟨t27, f27⟩ := t17.set (k := 7) (by decide) b1 (n : Int) v
  rw [← e27] at t27 f27
  have e2 : g_i M27 t 17 = S.2.2 17 := by rw [t27.2.1 17]; rfl
  rw [e2]
  refine ⟨⟨by omega, by omega⟩, fun M32 e32 _ => ?_⟩
  obtain ⟨t32, f32⟩ := t27.fld 17 (S.2.2 17 + 1)
  rw [← e32] at t32 f32
  have e3 : g_i M32 t 16 = S.2.2 16 := by rw [t32.2.1 16]; rfl
  rw [e3]
  have hfin : ∀ M42, M42 = g_wi M32 t 16 (S.2.2 16 + v) → Q n M42 := fun M42 e42 => by
    obtain ⟨t42, f42⟩ := t32.fld 16 (S.2.2 16 + v)
    rw [← e42] at t42 f42
    refine hq _ M42 t42 ((((g2.tr0 f17).tr0 f27).tr0 f32).tr0 f42) ((((B_ag.fld _ _ _ _ _ (Or.inl rfl)).tr (B_ag.set _ _ _ _ _ _ (Or.inr ⟨Or.inl rfl, rfl⟩))).tr (B_ag.set _ _ _ _ _ _ (Or.inr ⟨Or.inr rfl, rfl⟩))).tr ((B_ag.fld _ _ _ _ _ (Or.inr (Or.inr rfl))).tr (B_ag.fld _ _ _ _ _ (Or.inr (Or.inl rfl))))) rfl ⟨⟨l4, l5, l6, l7, l8, li⟩, ?_, fun j w hj => hat j w ?_, ?_⟩ ?_ ?_ ?_ ?_
    · rw [B_fld_v, if_neg (by decide), B_fld_v, if_neg (by decide), B_set_f, B_set_f, B_fld_v, if_pos rfl]
      omega
    · unfold B_il at hj ⊢
      rw [List.map_append, List.getElem?_append_left]
      · exact hj
      · exact (List.getElem?_eq_some_iff.mp hj).1
    · rw [List.append_assoc] at hpm
      exact hpm
    · rw [B_fld_r, B_fld_r, B_set_v, if_neg (by omega), B_set_v, if_pos ⟨rfl, rfl⟩]
    · rw [B_fld_r, B_fld_r, B_set_v, if_pos ⟨rfl, rfl⟩]
    · rw [B_fld_v, if_neg (by decide), B_fld_v, if_pos rfl]
    · rw [B_fld_v, if_pos rfl]
  refine ⟨fun z => ⟨⟨by omega, by omega⟩, fun M42 e42 _ => hfin M42 (by rw [e42, z])⟩, fun z => ⟨⟨by omega, by omega⟩, fun M42 e42 _ => hfin M42 (by rw [e42, show v = 1 by omega])⟩⟩
/-- the old row's elements come into the wider one -/
theorem c_copyLeafs {Q : Int → g_M → Prop} {v n w N : Int} {a7 nw : Nat} (hvR : g_InR v) (hn : 0 ≤ n ∧ n ≤ 454) (hw : n + w = N) (hN : n ≤ N ∧ N ≤ 454) (o58 : g_O M t 10) (r58 : g_r M t ((7 : Nat) : Int) = some a7) (y58 : g_A M a7 2 n) (n58 : g_A M nw 2 N) (hne : a7 ≠ nw) (key : ∀ M69, M69 = g_cp M a7 nw 0 0 n → ∀ M73, M73 = g_wr M69 t 7 (some nw) → g_Run d 176 147 [(0, .ref t), (1, g_n v), (2, g_n n), (3, g_n w), (4, .ref nw), (5, g_n (N - 1))] [] M73 (g_qI Q)) : g_Run d 176 100 [(0, .ref t), (1, g_n v), (2, g_n n), (3, g_n w), (4, .ref nw), (5, g_n 0)] [] M (g_qI Q) := by
  obtain ⟨hn1, hn2⟩ := hn
  obtain ⟨hN1, hN2⟩ := hN
  have hnR : g_InR n := ⟨by omega, by omega⟩
  have hwR : g_InR w := ⟨by omega, by omega⟩
  have hNR : g_InR (n + w) := ⟨by omega, by omega⟩
  have hN9 : g_InR (n + w - 1) := ⟨by omega, by omega⟩
  have hcp : ∀ (r : Nat) (q : Int) (M69 : g_M), q + r = n → 0 ≤ q → M69 = g_cp M a7 nw 0 0 q → g_Run d 176 100 [(0, .ref t), (1, g_n v), (2, g_n n), (3, g_n w), (4, .ref nw), (5, g_n q)] [] M69 (g_qI Q) := by
    intro r
    induction r with
    | zero =>
      intro q M69 hq0 hq1 e69
      have hqn : q = n := by omega
      have o69 : g_O M69 t 10 := by rw [e69]; exact o58
      refine s_X10_newNode_100 hvR hnR hwR ⟨by omega, by omega⟩ fun _ => ⟨fun z => absurd z (by omega), fun _ => ⟨o69, fun M73 e73 _ => ⟨hNR, hN9, ?_⟩⟩⟩
      rw [hw]
      exact key M69 (by rw [e69, hqn]) M73 e73
    | succ r ih =>
      intro q M69 hq0 hq1 e69
      have hqn : q < n := by omega
      have o69 : g_O M69 t 10 := by rw [e69]; exact o58
      have r69 : g_r M69 t ((7 : Nat) : Int) = some a7 := by rw [e69]; exact r58
      have y69 : g_A M69 a7 2 n := by rw [e69]; exact y58
      have n69 : g_A M69 nw 2 N := by rw [e69]; exact n58
      have hqR : g_InR q := ⟨by omega, by omega⟩
      have hq2 : g_InR (q + 1) := ⟨by omega, by omega⟩
      have hqN : q < N := by omega
      have hq3 : (q + 1) + (r : Int) = n := by omega
      have hq4 : 0 ≤ q + 1 := by omega
      refine s_X10_newNode_100 hvR hnR hwR hqR fun hok => ⟨fun _ => ⟨o69, a7, r69, n, y69, hnR, fun _ => ⟨a7, r69, n, y69, ⟨hq1, hqn⟩, N, n69, ⟨hq1, hqN⟩, hok.bool y69 q, fun M29 e29 _ => ⟨hq2, ih (q + 1) M29 hq3 hq4 ?_⟩⟩, fun z => absurd hqn z⟩, fun z => absurd hqn z⟩
      rw [e29, e69]
      exact B_cp1 M hne hq1
  have h0 : (0 : Int) + (n.toNat : Int) = n := by omega
  exact hcp n.toNat 0 M h0 (Int.le_refl 0) (B_cp0 M a7 nw).symm
theorem c_newNode {Q : Int → g_M → Prop} {v : Int} (h : B_t t S M) (hs : B_nd S i FN ns) (hu : ns.length < 454) (hv : v = 0 ∨ v = 1) (h16 : 0 ≤ S.2.2 16 ∧ S.2.2 16 ≤ 1000) (h17 : 0 ≤ S.2.2 17 ∧ S.2.2 17 ≤ 1000) (hq : ∀ (n i1 : Nat) FN1 S1 M1, i ≤ i1 → B_t t S1 M1 → B_F t (B_wn i1 - B_wn i) (5 * i1 - 5 * i) M M1 → B_ag (B_nA n) B_nG S S1 → (∀ k, k < 4 ∨ 9 ≤ k → S1.1 k = S.1 k) → B_nd S1 i1 FN1 (n :: ns) → S1.2.1 6 n = 0 → S1.2.1 7 n = v → S1.2.2 17 = S.2.2 17 + 1 → S1.2.2 16 = S.2.2 16 + v → Q n M1) : g_Call (d + 2) 176 [.ref t, g_n v] M (g_qI Q) := by
  obtain ⟨⟨l4, l5, l6, l7, l8, li⟩, h9, hat, hpm⟩ := id hs
  have hpl := hpm.length_eq
  rw [List.length_append, List.length_range] at hpl
  have hcs := B_cn_le ⟨i, by omega⟩
  simp only at hcs
  have hvR : g_InR v := ⟨by omega, by omega⟩
  obtain ⟨a6, b1, b2, -⟩ := h.at (k := 6) (by decide)
  have b2 : g_A M a6 1 (S.1 6) := b2
  refine m_X10_newNode hvR fun _ => ⟨h.1, fun z => ?_, fun z => ?_⟩
  · rw [h.2.1 9, h9] at z
    have hFN : FN = [] := List.length_eq_zero_iff.mp (by omega)
    subst hFN
    rw [List.length_nil] at hpl
    have hj : i < 11 := by
      by_cases g : i < 11
      · exact g
      · have : i = 11 := by omega
        subst this
        have : B_cn 11 = 454 := by decide
        omega
    have hnx : B_cn (i + 1) = B_cn i + (if B_cn i < 8 then 8 else B_cn i / 2) := (B_cn_s i).resolve_right (by omega)
    have hcs1 := B_cn_le ⟨i + 1, by omega⟩
    simp only at hcs1
    have h27 : ∀ w : Int, B_cn i + w = B_cn (i + 1) → 0 < w → g_Run (d + 1) 176 27 [(0, .ref t), (1, g_n v), (2, g_n (B_cn i))] [g_n w] M (g_qI Q) := by
      intro w hw hw0
      obtain ⟨a4, c1, -, -⟩ := h.at (k := 4) (by decide)
      obtain ⟨a5, d1, -, -⟩ := h.at (k := 5) (by decide)
      obtain ⟨a8, x1, -, -⟩ := h.at (k := 8) (by decide)
      obtain ⟨a7, y1, y2, -⟩ := h.at (k := 7) (by decide)
      have y2 : g_A M a7 2 (S.1 7) := y2
      refine s_X10_newNode_27 hvR ⟨by omega, by omega⟩ ⟨by omega, by omega⟩ fun _ => ⟨h.1, a6, b1, ⟨by omega, by omega⟩, ?_⟩
      rw [hw]
      refine B_copyI (d := d) h (k := 6) (by decide) rfl b1 (by omega) (by omega) fun b9 M5 k1 k2 => ?_
      intro _ _
      refine ⟨b9, rfl, fun M11 e11 _ => ?_⟩
      obtain ⟨t11, f11⟩ := k1 M11 e11
      obtain ⟨S1, hS1⟩ : ∃ S1, S1 = B_gr S 6 (B_cn (i + 1)) := ⟨_, rfl⟩
      rw [← hS1] at t11
      have r4 : g_r M11 t ((4 : Nat) : Int) = some a4 := by
        rw [e11, g_r_wr, if_neg (fun z => absurd z.2 (by decide)), k2 4 (by decide)]
        exact c1
      have hl4 : S1.1 4 = 9 * B_cn i := by rw [hS1, B_gr_l, if_neg (by decide)]; exact l4
      refine ⟨a4, r4, ⟨by omega, by omega⟩, ⟨by omega, by omega⟩, ?_⟩
      refine B_copyI (d := d) t11 (k := 4) (by decide) rfl r4 (by omega) (by omega) fun b23 M19 k3 k4 => ?_
      intro _ _
      refine ⟨b23, rfl, fun M25 e25 _ => ?_⟩
      obtain ⟨t25, f25⟩ := k3 M25 e25
      obtain ⟨S2, hS2⟩ : ∃ S2, S2 = B_gr S1 4 (B_cn (i + 1) * 9) := ⟨_, rfl⟩
      rw [← hS2] at t25
      have r5 : g_r M25 t ((5 : Nat) : Int) = some a5 := by
        rw [e25, g_r_wr, if_neg (fun z => absurd z.2 (by decide)), k4 5 (by decide), e11, g_r_wr, if_neg (fun z => absurd z.2 (by decide)), k2 5 (by decide)]
        exact d1
      have hl5 : S2.1 5 = 9 * B_cn i := by rw [hS2, B_gr_l, if_neg (by decide), hS1, B_gr_l, if_neg (by decide)]; exact l5
      refine ⟨a5, r5, ⟨by omega, by omega⟩, ⟨by omega, by omega⟩, ?_⟩
      refine B_copyI (d := d) t25 (k := 5) (by decide) rfl r5 (by omega) (by omega) fun b37 M33 k5 k6 => ?_
      intro _ _
      refine ⟨b37, rfl, fun M39 e39 _ => ?_⟩
      obtain ⟨t39, f39⟩ := k5 M39 e39
      obtain ⟨S3, hS3⟩ : ∃ S3, S3 = B_gr S2 5 (B_cn (i + 1) * 9) := ⟨_, rfl⟩
      rw [← hS3] at t39
      have r8 : g_r M39 t ((8 : Nat) : Int) = some a8 := by
        rw [e39, g_r_wr, if_neg (fun z => absurd z.2 (by decide)), k6 8 (by decide), e25, g_r_wr, if_neg (fun z => absurd z.2 (by decide)), k4 8 (by decide), e11, g_r_wr, if_neg (fun z => absurd z.2 (by decide)), k2 8 (by decide)]
        exact x1
      have hl8 : S3.1 8 = B_cn i := by rw [hS3, B_gr_l, if_neg (by decide), hS2, B_gr_l, if_neg (by decide), hS1, B_gr_l, if_neg (by decide)]; exact l8
      refine ⟨a8, r8, ⟨by omega, by omega⟩, ?_⟩
      refine B_copyI (d := d) t39 (k := 8) (by decide) rfl r8 (by omega) (by omega) fun b50 M46 k7 k8 => ?_
      intro _ _
      refine ⟨b50, rfl, fun M52 e52 _ => ?_⟩
      obtain ⟨t52, f52⟩ := k7 M52 e52
      obtain ⟨S4, hS4⟩ : ∃ S4, S4 = B_gr S3 8 (B_cn (i + 1)) := ⟨_, rfl⟩
      rw [← hS4] at t52
      have r7 : g_r M52 t ((7 : Nat) : Int) = some a7 := by
        rw [e52, g_r_wr, if_neg (fun z => absurd z.2 (by decide)), k8 7 (by decide), e39, g_r_wr, if_neg (fun z => absurd z.2 (by decide)), k6 7 (by decide), e25, g_r_wr, if_neg (fun z => absurd z.2 (by decide)), k4 7 (by decide), e11, g_r_wr, if_neg (fun z => absurd z.2 (by decide)), k2 7 (by decide)]
        exact y1
      have hl7 : S4.1 7 = B_cn i := by rw [hS4, B_gr_l, if_neg (by decide), hS3, B_gr_l, if_neg (by decide), hS2, B_gr_l, if_neg (by decide), hS1, B_gr_l, if_neg (by decide)]; exact l7
      have y52 : g_A M52 a7 2 (B_cn i) := by
        have := B_nfs (v := 0) t52 (k := 7) (by decide) r7
        rw [hl7] at this
        exact this
      refine ⟨⟨by omega, by omega⟩, ⟨by omega, by omega⟩, fun M58 e58 _ => ?_⟩
      have r58 : g_r M58 t ((7 : Nat) : Int) = some a7 := by
        have := t52.1.lt
        rw [e58, g_r_nw, if_neg (by omega)]
        exact r7
      have hA58 : g_A M58 (2 * M52.1.length) 2 (B_cn (i + 1)) := by
        rw [e58]
        have := @g_A_nw 2 M52 (B_cn (i + 1)).toNat
        rwa [show (((B_cn (i + 1)).toNat : Nat) : Int) = B_cn (i + 1) by omega] at this
      refine c_copyLeafs hvR ⟨by omega, by omega⟩ hw ⟨by omega, by omega⟩ (t52.1.up (g_extN e58)) r58 (y52.up (g_extN e58)) hA58 (Nat.ne_of_lt y52.lt) fun M69 e69 M73 e73 => ?_
      obtain ⟨t73, f73⟩ := t52.grow (k := 7) (n := B_cn (i + 1)) (m := (B_cn (i + 1)).toNat) (by decide) r7 (by omega) (by omega)
      have e73' : M73 = g_wr (g_cp (g_nw M52 (B_ty 7) (B_cn (i + 1)).toNat) a7 (2 * M52.1.length) 0 0 (S4.1 7)) t ((7 : Nat) : Int) (some (2 * M52.1.length)) := by
        rw [e73, e69, e58, hl7]
        rfl
      rw [← e73'] at t73 f73
      obtain ⟨S5, hS5⟩ : ∃ S5, S5 = B_gr S4 7 (B_cn (i + 1)) := ⟨_, rfl⟩
      rw [← hS5] at t73
      have fall := (((f11.tr f25).tr f39).tr f52).tr f73
      have ag5 : ∀ n, B_ag (B_nA n) B_nG S S5 := fun n => by
        have q1 : B_ag (B_nA n) B_nG S S1 := by rw [hS1]; exact B_ag.gr _ _ _ _ _ (by omega)
        have q2 : B_ag (B_nA n) B_nG S1 S2 := by rw [hS2]; exact B_ag.gr _ _ _ _ _ (by omega)
        have q3 : B_ag (B_nA n) B_nG S2 S3 := by rw [hS3]; exact B_ag.gr _ _ _ _ _ (by omega)
        have q4 : B_ag (B_nA n) B_nG S3 S4 := by rw [hS4]; exact B_ag.gr _ _ _ _ _ (by omega)
        have q5 : B_ag (B_nA n) B_nG S4 S5 := by rw [hS5]; exact B_ag.gr _ _ _ _ _ (by omega)
        exact (((q1.tr q2).tr q3).tr q4).tr q5
      have hln : ∀ k, S5.1 k = if k = 7 then B_cn (i + 1) else if k = 8 then B_cn (i + 1) else if k = 5 then B_cn (i + 1) * 9 else if k = 4 then B_cn (i + 1) * 9 else if k = 6 then B_cn (i + 1) else S.1 k := fun k => by
        rw [hS5, B_gr_l, hS4, B_gr_l, hS3, B_gr_l, hS2, B_gr_l, hS1, B_gr_l]
      have s4 : S5.1 4 = 9 * B_cn (i + 1) := by rw [hln]; simp only [show ¬ (4 = 7) by decide, show ¬ (4 = 8) by decide, show ¬ (4 = 5) by decide, if_false, if_true]; omega
      have s5 : S5.1 5 = 9 * B_cn (i + 1) := by rw [hln]; simp only [show ¬ (5 = 7) by decide, show ¬ (5 = 8) by decide, if_false, if_true]; omega
      have s6 : S5.1 6 = B_cn (i + 1) := by rw [hln]; simp only [show ¬ (6 = 7) by decide, show ¬ (6 = 8) by decide, show ¬ (6 = 5) by decide, show ¬ (6 = 4) by decide, if_false, if_true]
      have s7 : S5.1 7 = B_cn (i + 1) := by rw [hln, if_pos rfl]
      have s8 : S5.1 8 = B_cn (i + 1) := by rw [hln, if_neg (by decide), if_pos rfl]
      have so : ∀ k, k < 4 ∨ 9 ≤ k → S5.1 k = S.1 k := fun k hk => by rw [hln, if_neg (by omega), if_neg (by omega), if_neg (by omega), if_neg (by omega), if_neg (by omega)]
      have sf : ∀ k, S5.2.2 k = S.2.2 k := fun k => by rw [hS5, hS4, hS3, hS2, hS1]; rfl
      -- the new nodes are free
      have hlp : ∀ (r cnt : Nat) (S6 : B_S) (M4 : g_M), B_cn i + r + cnt = B_cn (i + 1) → B_t t S6 M4 → B_F t 0 0 M73 M4 → (∀ n, B_ag (B_nA n) B_nG S5 S6) → S6.1 = S5.1 → S6.2.2 9 = cnt → S6.2.2 16 = S.2.2 16 → S6.2.2 17 = S.2.2 17 → b_at (S6.2.1 8) 0 (B_il (B_dn ((B_cn i).toNat + r) cnt)) → g_Run (d + 1) 176 147 [(0, .ref t), (1, g_n v), (2, g_n (B_cn i)), (3, g_n w), (4, .ref (2 * M52.1.length)), (5, g_n (B_cn i + r - 1))] [] M4 (g_qI Q) := by
        intro r
        induction r with
        | zero =>
          intro cnt S6 M4 hr t4 f4 g4 e4 c4 c16 c17 at4
          refine s_X10_newNode_147 hvR ⟨by omega, by omega⟩ ⟨by omega, by omega⟩ ⟨by omega, by omega⟩ fun _ => ⟨fun _ => ?_, fun z => absurd (by omega) z⟩
          obtain ⟨cn, hcn⟩ : ∃ cn, cnt = cn + 1 := ⟨cnt - 1, by omega⟩
          subst hcn
          rw [Nat.add_zero, B_dn_s] at at4
          have hsl4 : B_nd S6 (i + 1) (B_dn ((B_cn i).toNat + 1) cn ++ [(B_cn i).toNat]) ns := by
            refine ⟨⟨by rw [e4]; exact s4, by rw [e4]; exact s5, by rw [e4]; exact s6, by rw [e4]; exact s7, by rw [e4]; exact s8, by omega⟩, ?_, at4, ?_⟩
            · rw [c4, List.length_append, List.length_singleton, B_dn_len]
            · rw [← B_dn_s]
              have hp2 : ns.Perm (List.range (B_cn i).toNat) := hpm
              have h9 : List.range (B_cn (i + 1)).toNat = List.range (B_cn i).toNat ++ List.range' (B_cn i).toNat (cn + 1) := by
                rw [show (B_cn (i + 1)).toNat = (B_cn i).toNat + (cn + 1) by omega, List.range_eq_range', List.range_eq_range', ← List.range'_append_1, Nat.zero_add]
              rw [h9]
              exact List.perm_append_comm.trans (hp2.append (List.reverse_perm _))
          refine c_popNode t4 hsl4 hv (by rw [c16]; exact h16) (by rw [c17]; exact h17) fun S7 M5 t5 f5 g5 e5 hs5 w1 w2 w3 w4 => ?_
          refine hq _ (i + 1) _ S7 M5 (by omega) t5 ?_ (((ag5 _).tr (g4 _)).tr g5) (fun k hk => by rw [e5, e4]; exact so k hk) hs5 w1 w2 (by rw [w3, c17]) (by rw [w4, c16])
          have := (fall.tr0 f4).tr0 f5
          have ew : B_wn (i + 1) - B_wn i = B_cn (i + 1) + B_cn (i + 1) * 9 + B_cn (i + 1) * 9 + B_cn (i + 1) + B_cn (i + 1) := by
            show B_wn i + 21 * B_cn (i + 1) - B_wn i = _
            omega
          rw [ew, show (5 : Int) * ((i + 1 : Nat) : Int) - 5 * (i : Int) = 1 + 1 + 1 + 1 + 1 by omega]
          exact this
        | succ r ih =>
          intro cnt S6 M4 hr t4 f4 g4 e4 c4 c16 c17 at4
          obtain ⟨a, b1, b2, b3⟩ := t4.at (k := 8) (by decide)
          have b2 : g_A M4 a 1 (S6.1 8) := b2
          have hl4 : S6.1 8 = B_cn (i + 1) := by rw [e4]; exact s8
          refine s_X10_newNode_147 hvR ⟨by omega, by omega⟩ ⟨by omega, by omega⟩ ⟨by omega, by omega⟩ fun _ => ⟨fun z => absurd z (by omega), fun _ => ⟨t4.1, a, b1, S6.1 8, b2, ?_⟩⟩
          rw [t4.2.1 9, c4]
          refine ⟨⟨by omega, by omega⟩, fun M7 e7 _ => ?_⟩
          obtain ⟨t7, f7⟩ := t4.set (k := 8) (by decide) b1 (cnt : Int) (B_cn i + ((r + 1 : Nat) : Int) - 1)
          rw [← e7] at t7 f7
          have h73 : g_i M7 t 9 = cnt := by rw [t7.2.1 9]; exact c4
          rw [h73]
          refine ⟨⟨by omega, by omega⟩, fun M12 e12 _ => ⟨⟨by omega, by omega⟩, ?_⟩⟩
          obtain ⟨t12, f12⟩ := t7.fld 9 ((cnt : Int) + 1)
          rw [← e12] at t12 f12
          have h9 := ih (cnt + 1) _ M12 (by omega) t12 (f4.tr0 (f7.tr0 f12)) (fun n => (g4 n).tr ((B_ag.set _ _ _ _ _ _ (Or.inl rfl)).tr (B_ag.fld _ _ _ _ _ (Or.inl rfl)))) e4 (by rw [B_fld_v, if_pos rfl]; omega) (by rw [B_fld_v, if_neg (by decide)]; exact c16) (by rw [B_fld_v, if_neg (by decide)]; exact c17) (by
            rw [B_dn_s]
            unfold B_il
            rw [List.map_append]
            refine b_app.mpr ⟨fun j x hj => ?_, b_cons.mpr ⟨?_, b_nil _ _⟩⟩
            · have := (List.getElem?_eq_some_iff.mp hj).1
              rw [List.length_map, B_dn_len] at this
              show (if 8 = 8 ∧ (0 : Int) + j = cnt then _ else S6.2.1 8 (0 + j)) = x
              rw [if_neg (by omega)]
              rw [show (B_cn i).toNat + (r + 1) = (B_cn i).toNat + r + 1 by omega] at at4
              exact at4 j x hj
            · show (if 8 = 8 ∧ (0 : Int) + ((List.map _ _).length : Nat) = cnt then _ else _) = _
              rw [List.length_map, B_dn_len, if_pos ⟨rfl, by omega⟩]
              show B_cn i + ((r + 1 : Nat) : Int) - 1 = (((B_cn i).toNat + r : Nat) : Int)
              omega)
          rw [show B_cn i + ((r + 1 : Nat) : Int) - 1 + -1 = B_cn i + (r : Int) - 1 by omega]
          exact h9
      have h9 := hlp w.toNat 0 S5 M73 (by omega) t73 (B_F.rf _ _) (fun _ => B_ag.rf _ _ _) rfl (by rw [sf, h9]; rfl) (sf 16) (sf 17) (b_nil _ _)
      rw [show B_cn i + (w.toNat : Int) - 1 = B_cn (i + 1) - 1 by omega] at h9
      exact h9
    refine ⟨a6, b1, S.1 6, b2, ⟨by omega, by omega⟩, fun g => ?_, fun g => ?_⟩
    · rw [l6] at g ⊢
      rw [if_pos g] at hnx
      exact h27 8 (by omega) (by omega)
    · rw [l6] at g ⊢
      rw [if_neg g] at hnx
      have e2 : (B_cn i).tdiv 2 = B_cn i / 2 := Int.tdiv_eq_ediv_of_nonneg (by omega)
      rw [e2]
      exact h27 _ (by omega) (by omega)
  · rw [h.2.1 9, h9] at z
    rcases List.eq_nil_or_concat FN with g | ⟨F0, n, g⟩
    · rw [g] at z
      exact absurd rfl z
    · rw [List.concat_eq_append] at g
      subst g
      refine c_popNode h hs hv h16 h17 fun S1 M1 t1 f1 g1 e1 hs1 w1 w2 w3 w4 => hq n i F0 S1 M1 (Nat.le_refl _) t1 ?_ g1 (fun k _ => by rw [e1]) hs1 w1 w2 w3 w4
      rw [Int.sub_self, Int.sub_self]
      exact f1
theorem c_freeNode {Q : g_M → Prop} {n : Nat} {u1 u2 : List Nat} {v : Int} (h : B_t t S M) (hs : B_nd S i FN (u1 ++ n :: u2)) (hv : S.2.1 7 n = v) (hv01 : v = 0 ∨ v = 1) (h16 : 0 ≤ S.2.2 16 ∧ S.2.2 16 ≤ 1000) (h17 : 0 ≤ S.2.2 17 ∧ S.2.2 17 ≤ 1000) (hq : ∀ S1 M1, B_t t S1 M1 → B_F t 0 0 M M1 → B_ag (fun k _ => k = 8) B_nG S S1 → S1.1 = S.1 → B_nd S1 i (FN ++ [n]) (u1 ++ u2) → S1.2.2 17 = S.2.2 17 - 1 → S1.2.2 16 = S.2.2 16 - v → Q M1) : g_Call (d + 1) 177 [.ref t, g_n n] M (g_qV Q) := by
  obtain ⟨⟨l4, l5, l6, l7, l8, li⟩, h9, hat, hpm⟩ := id hs
  have hpl := hpm.length_eq
  rw [List.length_append, List.length_append, List.length_cons, List.length_range] at hpl
  have hcs := B_cn_le ⟨i, by omega⟩
  simp only at hcs
  have hnm : n < (B_cn i).toNat := by
    have : n ∈ List.range (B_cn i).toNat := hpm.mem_iff.mp (by simp)
    exact List.mem_range.mp this
  have hnR : g_InR (n : Int) := ⟨by omega, by omega⟩
  refine m_X10_freeNode hnR fun _ => ⟨h.1, ?_⟩
  rw [h.2.1 17]
  refine ⟨⟨by omega, by omega⟩, fun M3 e3 _ => ?_⟩
  obtain ⟨t3, f3⟩ := h.fld 17 (S.2.2 17 - 1)
  rw [← e3] at t3 f3
  obtain ⟨a, a1, a2, a3⟩ := t3.at (k := 7) (by decide)
  have a2 : g_A M3 a 2 (S.1 7) := a2
  have hav : g_i M3 a n = v := by
    rw [a3 _ (by omega) (by show (n : Int) < S.1 7; omega)]
    exact hv
  have h163 : g_i M3 t 16 = S.2.2 16 := by rw [t3.2.1 16]; rfl
  have hgo : g_Run d 177 29 [(0, .ref t), (1, g_n n)] [g_n v, g_n (S.2.2 16), .ref t] M3 (g_qV Q) := by
    refine s_X10_freeNode_29 hnR ⟨by omega, by omega⟩ ⟨by omega, by omega⟩ fun _ => ⟨⟨by omega, by omega⟩, t3.1, fun M4 e4 _ => ?_⟩
    obtain ⟨t4, f4⟩ := t3.fld 16 (S.2.2 16 - v)
    rw [← e4] at t4 f4
    obtain ⟨b, b1, b2, -⟩ := t4.at (k := 8) (by decide)
    have b2 : g_A M4 b 1 (S.1 8) := b2
    have h94 : g_i M4 t 9 = FN.length := by rw [t4.2.1 9]; exact h9
    rw [h94]
    refine ⟨t4.1, b, b1, S.1 8, b2, ⟨by omega, by omega⟩, fun _ => ⟨b, b1, S.1 8, b2, ⟨by omega, by omega⟩, fun M18 e18 _ => ?_⟩, fun z => absurd (by omega) z⟩
    obtain ⟨t18, f18⟩ := t4.set (k := 8) (by decide) b1 (FN.length : Int) (n : Int)
    rw [← e18] at t18 f18
    have h98 : g_i M18 t 9 = FN.length := by rw [t18.2.1 9]; exact h9
    rw [h98]
    refine ⟨⟨by omega, by omega⟩, fun M23 e23 _ => ?_⟩
    obtain ⟨t23, f23⟩ := t18.fld 9 ((FN.length : Int) + 1)
    rw [← e23] at t23 f23
    refine hq _ M23 t23 (((f3.tr0 f4).tr0 f18).tr0 f23) (((B_ag.fld _ _ _ _ _ (Or.inr (Or.inr rfl))).tr (B_ag.fld _ _ _ _ _ (Or.inr (Or.inl rfl)))).tr ((B_ag.set _ _ _ _ _ _ rfl).tr (B_ag.fld _ _ _ _ _ (Or.inl rfl)))) rfl ⟨⟨l4, l5, l6, l7, l8, li⟩, ?_, ?_, ?_⟩ ?_ ?_
    · rw [B_fld_v, if_pos rfl, List.length_append, List.length_singleton]
      omega
    · unfold B_il
      rw [List.map_append]
      refine b_app.mpr ⟨fun j w hj => ?_, b_cons.mpr ⟨?_, b_nil _ _⟩⟩
      · have := (List.getElem?_eq_some_iff.mp hj).1
        rw [List.length_map] at this
        show (if 8 = 8 ∧ (0 : Int) + j = FN.length then _ else S.2.1 8 (0 + j)) = w
        rw [if_neg (by omega)]
        exact hat j w hj
      · show (if 8 = 8 ∧ (0 : Int) + ((List.map _ _).length : Nat) = FN.length then _ else _) = _
        rw [List.length_map, if_pos ⟨rfl, by omega⟩]
    · rw [List.append_assoc]
      refine List.Perm.trans (List.Perm.append_left _ ?_) hpm
      show (n :: (u1 ++ u2)).Perm (u1 ++ n :: u2)
      exact List.perm_middle.symm
    · rw [B_fld_v, if_neg (by decide), B_set_f, B_fld_v, if_neg (by decide), B_fld_v, if_pos rfl]
    · rw [B_fld_v, if_neg (by decide), B_set_f, B_fld_v, if_pos rfl]
  refine ⟨a, a1, S.1 7, a2, ⟨by omega, by omega⟩, ?_⟩
  rw [hav, h163]
  refine ⟨fun z => ?_, fun z => ?_⟩
  · rw [z] at hgo
    exact hgo
  · rw [show v = 1 by omega] at hgo
    exact hgo
end BND
