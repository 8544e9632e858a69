/-! TREES OF THE CLASS: slots and nodes are taken and given back -/
def B_il (l : List Nat) : List Int := l.map fun x : Nat => (x : Int)
def B_dn (lo n : Nat) : List Nat := (List.range' lo n).reverse
theorem B_dn_s (lo n : Nat) : B_dn lo (n + 1) = B_dn (lo + 1) n ++ [lo] := by
  unfold B_dn
  rw [List.range'_succ, List.reverse_cons]
theorem B_dn_len (lo n : Nat) : (B_dn lo n).length = n := by
  unfold B_dn
  rw [List.length_reverse, List.length_range']
/-- slots: those that are free, the last one comes next; those in use -/
def B_sl (S : B_S) (j : Nat) (FS us : List Nat) : Prop := (S.1 0 = 132 * B_cs j ∧ S.1 1 = B_cs j ∧ S.1 2 = B_cs j ∧ j ≤ 12) ∧ S.2.2 3 = FS.length ∧ b_at (S.2.1 2) 0 (B_il FS) ∧ (FS ++ us).Perm (List.range (B_cs j).toNat)
def B_nd (S : B_S) (i : Nat) (FN ns : List Nat) : Prop := (S.1 4 = 9 * B_cn i ∧ S.1 5 = 9 * B_cn i ∧ S.1 6 = B_cn i ∧ S.1 7 = B_cn i ∧ S.1 8 = B_cn i ∧ i ≤ 11) ∧ S.2.2 9 = FN.length ∧ b_at (S.2.1 8) 0 (B_il FN) ∧ (FN ++ ns).Perm (List.range (B_cn i).toNat)
/-- all else is as it was -/
def B_ag (A : Nat → Int → Prop) (G : Int → Prop) (S S1 : B_S) : Prop := (∀ k, S.1 k ≤ S1.1 k) ∧ (∀ (k : Nat) (q : Int), ¬ A k q → 0 ≤ q → q < S.1 k → S1.2.1 k q = S.2.1 k q) ∧ ∀ k, ¬ G k → S1.2.2 k = S.2.2 k
theorem B_ag.rf (A : Nat → Int → Prop) (G : Int → Prop) (S : B_S) : B_ag A G S S := ⟨fun _ => Int.le_refl _, fun _ _ _ _ _ => rfl, fun _ _ => rfl⟩
theorem B_ag.tr {A : Nat → Int → Prop} {G : Int → Prop} {S S1 S2 : B_S} (h : B_ag A G S S1) (h2 : B_ag A G S1 S2) : B_ag A G S S2 := ⟨fun k => Int.le_trans (h.1 k) (h2.1 k), fun k q hk h0 hq => by
  have := h.1 k
  rw [h2.2.1 k q hk h0 (by omega), h.2.1 k q hk h0 hq], fun k hk => by rw [h2.2.2 k hk, h.2.2 k hk]⟩
theorem B_ag.up {A A2 : Nat → Int → Prop} {G G2 : Int → Prop} {S S1 : B_S} (h : B_ag A G S S1) (hA : ∀ k q, A k q → A2 k q) (hG : ∀ k, G k → G2 k) : B_ag A2 G2 S S1 := ⟨h.1, fun k q hk => h.2.1 k q fun z => hk (hA k q z), fun k hk => h.2.2 k fun z => hk (hG k z)⟩
theorem B_ag.set (A : Nat → Int → Prop) (G : Int → Prop) (S : B_S) (k : Nat) (q v : Int) (hk : A k q) : B_ag A G S (B_set S k q v) := ⟨fun _ => Int.le_refl _, fun k2 q2 hk2 _ _ => if_neg fun z : k2 = k ∧ q2 = q => hk2 (by rw [z.1, z.2]; exact hk), fun _ _ => rfl⟩
theorem B_ag.fld (A : Nat → Int → Prop) (G : Int → Prop) (S : B_S) (k v : Int) (hk : G k) : B_ag A G S (B_fld S k v) := ⟨fun _ => Int.le_refl _, fun _ _ _ _ _ => rfl, fun k2 hk2 => if_neg fun z : k2 = k => hk2 (z ▸ hk)⟩
theorem B_ag.gr (A : Nat → Int → Prop) (G : Int → Prop) (S : B_S) (k : Nat) (n : Int) (hn : S.1 k ≤ n) : B_ag A G S (B_gr S k n) := by
  refine ⟨fun k2 => ?_, fun k2 q hk2 h0 hq => ?_, fun _ _ => rfl⟩
  · show S.1 k2 ≤ if k2 = k then n else S.1 k2
    split
    · rename_i h
      rw [h]
      exact hn
    · exact Int.le_refl _
  · show (if k2 = k ∧ S.1 k ≤ q then 0 else S.2.1 k2 q) = _
    rw [if_neg fun z => by rw [z.1] at hq; omega]
theorem B_gr_l (S : B_S) (k : Nat) (n : Int) (k2 : Nat) : (B_gr S k n).1 k2 = if k2 = k then n else S.1 k2 := rfl
theorem B_gr_v (S : B_S) (k : Nat) (n : Int) (k2 : Nat) (q : Int) : (B_gr S k n).2.1 k2 q = if k2 = k ∧ S.1 k ≤ q then 0 else S.2.1 k2 q := rfl
theorem B_set_v (S : B_S) (k : Nat) (q v : Int) (k2 : Nat) (q2 : Int) : (B_set S k q v).2.1 k2 q2 = if k2 = k ∧ q2 = q then v else S.2.1 k2 q2 := rfl
theorem B_fld_v (S : B_S) (k v k2 : Int) : (B_fld S k v).2.2 k2 = if k2 = k then v else S.2.2 k2 := rfl
theorem B_set_f (S : B_S) (k : Nat) (q v k2 : Int) : (B_set S k q v).2.2 k2 = S.2.2 k2 := rfl
theorem B_fld_r (S : B_S) (k v : Int) (k2 : Nat) (q : Int) : (B_fld S k v).2.1 k2 q = S.2.1 k2 q := rfl
theorem B_cp_v (S : B_S) (k k1 : Nat) (sp dp n : Int) (k2 : Nat) (q : Int) : (B_cp S k k1 sp dp n).2.1 k2 q = if k2 = k1 ∧ dp ≤ q ∧ q < dp + n then S.2.1 k (sp + (q - dp)) else S.2.1 k2 q := rfl
theorem B_nfs {M : g_M} {t : Nat} {S : B_S} (h : B_t t S M) {k : Nat} {v : Int} (hk : k ∈ B_fs) {a : Nat} (ha : g_r M t k = some a) : g_A M a (B_ty k) (S.1 k) := by
  obtain ⟨a2, h1, h2, -⟩ := h.at hk
  rw [ha] at h1
  cases h1
  exact h2
section BCP
variable {d t : Nat} {S : B_S} {M : g_M}
theorem B_copyI {Q : Option Nat → g_M → Prop} {k a : Nat} {n : Int} (h : B_t t S M) (hk : k ∈ B_fs) (hty : B_ty k = 1) (ha : g_r M t k = some a) (hn : S.1 k < n) (hn2 : n ≤ 1000000) (hq : ∀ b M1, (∀ M2, M2 = g_wr M1 t k (some b) → B_t t (B_gr S k n) M2 ∧ B_F t n 1 M M2) → (∀ k2 : Nat, k2 ≠ k → g_r M1 t k2 = g_r M t k2) → Q (some b) M1) : g_Call (d + 1) 439 [.ref a, g_n n] M (g_qR Q) := by
  obtain ⟨a2, h1, h2, -⟩ := h.at hk
  rw [ha] at h1
  cases h1
  rw [hty] at h2
  have hl := h2.len
  have hlt := h.1.lt
  refine m_J7_copyOfI (d := d) ⟨by omega, by omega⟩ fun _ => ⟨S.1 k, h2, ⟨by omega, by omega⟩, fun z => absurd z (by omega), fun _ => ⟨⟨by omega, by omega⟩, fun M5 e5 _ => ?_⟩⟩
  have hA5 : g_A M5 (2 * M.1.length) 1 n := by
    subst e5
    have := @g_A_nw 1 M n.toNat
    rwa [show ((n.toNat : Nat) : Int) = n by omega] at this
  refine ⟨⟨by omega, by omega⟩, n, hA5, ⟨by omega, by omega, by omega, by omega, by omega⟩, fun M13 e13 _ => hq _ _ (fun M2 e2 => ?_) fun k2 hk2 => ?_⟩
  · have := h.grow (n := n) (m := n.toNat) hk ha (by omega) (by omega)
    rw [hty] at this
    rw [e2, e13, e5, Int.min_eq_left (by omega)]
    exact this
  · rw [e13, e5, g_r_cp, g_r_nw, if_neg (by omega)]
theorem B_copyB {Q : Option Nat → g_M → Prop} {a : Nat} {n : Int} (h : B_t t S M) (ha : g_r M t 0 = some a) (hn : S.1 0 < n) (hn2 : n ≤ 1000000) (hq : ∀ b M1, (∀ M2, M2 = g_wr M1 t 0 (some b) → B_t t (B_gr S 0 n) M2 ∧ B_F t n 1 M M2) → (∀ k2 : Nat, k2 ≠ 0 → g_r M1 t k2 = g_r M t k2) → Q (some b) M1) : g_Call (d + 1) 438 [.ref a, g_n n] M (g_qR Q) := by
  obtain ⟨a2, h1, h2, -⟩ := h.at (k := 0) (by decide)
  have ha' : g_r M t ((0 : Nat) : Int) = some a := ha
  rw [ha'] at h1
  cases h1
  have h2 : g_A M a 0 (S.1 0) := h2
  have hl := h2.len
  have hlt := h.1.lt
  refine m_J7_copyOfB (d := d) ⟨by omega, by omega⟩ fun _ => ⟨S.1 0, h2, ⟨by omega, by omega⟩, fun z => absurd z (by omega), fun _ => ⟨⟨by omega, by omega⟩, fun M5 e5 _ => ?_⟩⟩
  have hA5 : g_A M5 (2 * M.1.length) 0 n := by
    subst e5
    have := @g_A_nw 0 M n.toNat
    rwa [show ((n.toNat : Nat) : Int) = n by omega] at this
  refine ⟨⟨by omega, by omega⟩, n, hA5, ⟨by omega, by omega, by omega, by omega, by omega⟩, fun M13 e13 _ => hq _ _ (fun M2 e2 => ?_) fun k2 hk2 => ?_⟩
  · have := h.grow (k := 0) (n := n) (m := n.toNat) (by decide) ha' (by omega) (by omega)
    rw [e2, e13, e5, Int.min_eq_left (by omega)]
    exact this
  · rw [e13, e5, g_r_cp, g_r_nw, if_neg (by omega)]
end BCP
section BSL
variable {d t j : Nat} {S : B_S} {M : g_M} {FS us : List Nat}
/-- the last free slot is taken -/
theorem c_popSlot {Q : Int → g_M → Prop} {s : Nat} (h : B_t t S M) (hs : B_sl S j (FS ++ [s]) us) (hq : ∀ S1 M1, B_t t S1 M1 → B_F t 0 0 M M1 → B_ag (fun k _ => k = 2) (fun k => k = 3) S S1 → S1.1 = S.1 → B_sl S1 j FS (s :: us) → (∀ k : Int, g_r M1 t k = g_r M t k) → Q s M1) : g_Run d 174 111 [(0, .ref t)] [] M (g_qI Q) := by
  obtain ⟨⟨l0, l1, l2, l3⟩, h3, hat, hpm⟩ := id hs
  rw [List.length_append, List.length_singleton] at h3
  have hpl := hpm.length_eq
  have hcs := B_cs_le ⟨j, by omega⟩
  simp only at hcs
  rw [List.length_append, List.length_append, List.length_singleton, List.length_range] at hpl
  refine s_X10_newSlot_111 fun _ => ⟨h.1, ?_⟩
  rw [h.2.1 3, h3]
  refine ⟨⟨by omega, by omega⟩, fun M3 e3 _ => ?_⟩
  obtain ⟨g1, g2⟩ := h.fld 3 (((FS.length + 1 : Nat) : Int) - 1)
  rw [← e3] at g1 g2
  obtain ⟨a, a1, a2, a3⟩ := g1.at (k := 2) (by decide)
  have a2 : g_A M3 a 1 (S.1 2) := a2
  have e9 : g_i M3 t 3 = FS.length := by
    rw [g1.2.1 3, B_fld_v, if_pos rfl]
    omega
  rw [e9]
  have hv : g_i M3 a (FS.length : Int) = s := by
    rw [a3 _ (by omega) (by show (FS.length : Int) < S.1 2; omega)]
    show S.2.1 2 _ = _
    have := hat FS.length s (by unfold B_il; rw [List.getElem?_map, List.getElem?_append_right (Nat.le_refl _), Nat.sub_self]; rfl)
    rwa [Int.zero_add] at this
  refine ⟨a, a1, S.1 2, a2, ⟨by omega, by omega⟩, ?_⟩
  rw [hv]
  refine hq _ M3 g1 g2 (B_ag.fld _ _ _ _ _ rfl) rfl ⟨⟨l0, l1, l2, l3⟩, by rw [B_fld_v, if_pos rfl]; omega, fun i v hi => hat i v ?_, ?_⟩ fun k => by rw [e3, g_r_wi]
  · unfold B_il at hi ⊢
    rw [List.map_append, List.getElem?_append_left]
    · exact hi
    · have := (List.getElem?_eq_some_iff.mp hi).1
      exact this
  · rw [List.append_assoc] at hpm
    exact hpm
theorem c_newSlot {Q : Int → g_M → Prop} (h : B_t t S M) (hs : B_sl S j FS us) (hu : us.length < 1369) (hq : ∀ (s j1 : Nat) FS1 S1 M1, j ≤ j1 → B_t t S1 M1 → B_F t (B_ws j1 - B_ws j) (3 * j1 - 3 * j) M M1 → B_ag (fun k _ => k = 2) (fun k => k = 3) S S1 → (∀ k, 3 ≤ k → S1.1 k = S.1 k) → B_sl S1 j1 FS1 (s :: us) → (∀ k : Nat, 3 ≤ k → g_r M1 t k = g_r M t k) → Q s M1) : g_Call (d + 2) 174 [.ref t] M (g_qI Q) := by
  obtain ⟨⟨l0, l1, l2, l3⟩, h3, hat, hpm⟩ := id hs
  have hpl := hpm.length_eq
  rw [List.length_append, List.length_range] at hpl
  have hcs := B_cs_le ⟨j, by omega⟩
  simp only at hcs
  obtain ⟨a1, b1, b2, -⟩ := h.at (k := 1) (by decide)
  have b2 : g_A M a1 1 (S.1 1) := b2
  refine m_X10_newSlot fun _ => ⟨h.1, fun z => ?_, fun z => ?_⟩
  · rw [h.2.1 3, h3] at z
    have hFS : FS = [] := List.length_eq_zero_iff.mp (by omega)
    subst hFS
    rw [List.length_nil] at hpl
    have hj : j < 12 := by
      by_cases g : j < 12
      · exact g
      · have : j = 12 := by omega
        subst this
        have : B_cs 12 = 1369 := by decide
        omega
    have hnx : B_cs (j + 1) = B_cs j + (if B_cs j < 16 then 16 else B_cs j / 2) := (B_cs_s j).resolve_right (by omega)
    have hcs1 := B_cs_le ⟨j + 1, by omega⟩
    simp only at hcs1
    have h27 : ∀ w : Int, B_cs j + w = B_cs (j + 1) → 0 < w → g_Run (d + 1) 174 27 [(0, .ref t), (1, g_n (B_cs j))] [g_n w] M (g_qI Q) := by
      intro w hw hw0
      obtain ⟨a0, c1, c2, -⟩ := h.at (k := 0) (by decide)
      obtain ⟨a2, d1, d2, -⟩ := h.at (k := 2) (by decide)
      refine s_X10_newSlot_27 ⟨by omega, by omega⟩ ⟨by omega, by omega⟩ fun _ => ⟨h.1, a1, b1, ⟨by omega, by omega⟩, ?_⟩
      rw [hw]
      refine B_copyI (d := d) h (k := 1) (by decide) rfl b1 (by omega) (by omega) fun b9 M5 k1 k2 => ?_
      intro _ _
      refine ⟨b9, rfl, fun M11 e11 _ => ?_⟩
      obtain ⟨t11, f11⟩ := k1 M11 e11
      have r0 : g_r M11 t ((0 : Nat) : Int) = some a0 := by
        rw [e11, g_r_wr, if_neg (fun z => absurd z.2 (by decide)), k2 0 (by decide)]
        exact c1
      refine ⟨a0, r0, ⟨by omega, by omega⟩, ⟨by omega, by omega⟩, ?_⟩
      have hl0 : (B_gr S 1 (B_cs (j + 1))).1 0 = 132 * B_cs j := by rw [B_gr_l, if_neg (by decide)]; exact l0
      refine B_copyB (d := d) t11 r0 (by rw [hl0]; omega) (by omega) fun b23 M19 k3 k4 => ?_
      intro _ _
      refine ⟨b23, rfl, fun M25 e25 _ => ?_⟩
      obtain ⟨t25, f25⟩ := k3 M25 e25
      have r2 : g_r M25 t ((2 : Nat) : Int) = some a2 := by
        rw [e25, g_r_wr, if_neg (fun z => absurd z.2 (by decide)), k4 2 (by decide), e11, g_r_wr, if_neg (fun z => absurd z.2 (by decide)), k2 2 (by decide)]
        exact d1
      have hl2 : (B_gr (B_gr S 1 (B_cs (j + 1))) 0 (B_cs (j + 1) * 132)).1 2 = B_cs j := by rw [B_gr_l, if_neg (by decide), B_gr_l, if_neg (by decide)]; exact l2
      refine ⟨a2, r2, ⟨by omega, by omega⟩, ?_⟩
      refine B_copyI (d := d) t25 (k := 2) (by decide) rfl r2 (by rw [hl2]; omega) (by omega) fun b36 M32 k5 k6 => ?_
      intro _ _
      refine ⟨b36, rfl, fun M38 e38 _ => ⟨⟨by omega, by omega⟩, ⟨by omega, by omega⟩, ?_⟩⟩
      obtain ⟨t38, f38⟩ := k5 M38 e38
      obtain ⟨S3, hS3⟩ : ∃ S3, S3 = B_gr (B_gr (B_gr S 1 (B_cs (j + 1))) 0 (B_cs (j + 1) * 132)) 2 (B_cs (j + 1)) := ⟨_, rfl⟩
      rw [← hS3] at t38
      have fall := (f11.tr f25).tr f38
      have ag3 : B_ag (fun k _ => k = 2) (fun k => k = 3) S S3 := by
        rw [hS3]
        exact ((B_ag.gr _ _ _ _ _ (by omega)).tr (B_ag.gr _ _ _ _ _ (by rw [hl0]; omega))).tr (B_ag.gr _ _ _ _ _ (by rw [hl2]; omega))
      have s0 : S3.1 0 = 132 * B_cs (j + 1) := by rw [hS3, B_gr_l, if_neg (by decide), B_gr_l, if_pos rfl]; omega
      have s1 : S3.1 1 = B_cs (j + 1) := by rw [hS3, B_gr_l, if_neg (by decide), B_gr_l, if_neg (by decide), B_gr_l, if_pos rfl]
      have s2 : S3.1 2 = B_cs (j + 1) := by rw [hS3, B_gr_l, if_pos rfl]
      have s3 : S3.2.2 3 = 0 := by rw [hS3]; exact h3
      have s4 : ∀ k, 3 ≤ k → S3.1 k = S.1 k := fun k hk => by rw [hS3, B_gr_l, if_neg (by omega), B_gr_l, if_neg (by omega), B_gr_l, if_neg (by omega)]
      have hr38 : ∀ k : Nat, 3 ≤ k → g_r M38 t k = g_r M t k := fun k hk => by
        rw [e38, g_r_wr, if_neg (fun z => by have := z.2; omega), k6 k (by omega), e25, g_r_wr, if_neg (fun z => by have := z.2; omega), k4 k (by omega), e11, g_r_wr, if_neg (fun z => by have := z.2; omega), k2 k (by omega)]
      -- the new slots are free
      have hlp : ∀ (r cnt : Nat) (S4 : B_S) (M4 : g_M), B_cs j + r + cnt = B_cs (j + 1) → B_t t S4 M4 → B_F t 0 0 M38 M4 → B_ag (fun k _ => k = 2) (fun k => k = 3) S3 S4 → S4.1 = S3.1 → S4.2.2 3 = cnt → b_at (S4.2.1 2) 0 (B_il (B_dn ((B_cs j).toNat + r) cnt)) → (∀ k : Int, g_r M4 t k = g_r M38 t k) → g_Run (d + 1) 174 80 [(0, .ref t), (1, g_n (B_cs j)), (2, g_n w), (3, g_n (B_cs j + r - 1))] [] M4 (g_qI Q) := by
        intro r
        induction r with
        | zero =>
          intro cnt S4 M4 hr t4 f4 g4 e4 c4 at4 hr4
          refine s_X10_newSlot_80 ⟨by omega, by omega⟩ ⟨by omega, by omega⟩ ⟨by omega, by omega⟩ fun _ => ⟨fun _ => ?_, fun z => absurd (by omega) z⟩
          obtain ⟨cn, hcn⟩ : ∃ cn, cnt = cn + 1 := ⟨cnt - 1, by omega⟩
          subst hcn
          rw [Nat.add_zero, B_dn_s] at at4
          have hsl4 : B_sl S4 (j + 1) (B_dn ((B_cs j).toNat + 1) cn ++ [(B_cs j).toNat]) us := by
            refine ⟨⟨by rw [e4]; exact s0, by rw [e4]; exact s1, by rw [e4]; exact s2, by omega⟩, ?_, at4, ?_⟩
            · rw [c4, List.length_append, List.length_singleton, B_dn_len]
            · rw [← B_dn_s]
              have hp2 : us.Perm (List.range (B_cs j).toNat) := hpm
              have h9 : List.range (B_cs (j + 1)).toNat = List.range (B_cs j).toNat ++ List.range' (B_cs j).toNat (cn + 1) := by
                rw [show (B_cs (j + 1)).toNat = (B_cs j).toNat + (cn + 1) by omega, List.range_eq_range', List.range_eq_range', ← List.range'_append_1, Nat.zero_add]
              rw [h9]
              exact List.perm_append_comm.trans (hp2.append (List.reverse_perm _))
          refine c_popSlot t4 hsl4 fun S5 M5 t5 f5 g5 e5 hs5 hr5 => ?_
          refine hq _ (j + 1) _ S5 M5 (by omega) t5 ?_ ((ag3.tr g4).tr g5) (fun k hk => by rw [e5, e4]; exact s4 k hk) hs5 fun k hk => by rw [hr5, hr4, hr38 k hk]
          have := (fall.tr0 f4).tr0 f5
          have ew : B_ws (j + 1) - B_ws j = B_cs (j + 1) + B_cs (j + 1) * 132 + B_cs (j + 1) := by
            show B_ws j + 134 * B_cs (j + 1) - B_ws j = _
            omega
          rw [ew, show (3 : Int) * ((j + 1 : Nat) : Int) - 3 * (j : Int) = 1 + 1 + 1 by omega]
          exact this
        | succ r ih =>
          intro cnt S4 M4 hr t4 f4 g4 e4 c4 at4 hr4
          obtain ⟨a, b1, b2, b3⟩ := t4.at (k := 2) (by decide)
          have b2 : g_A M4 a 1 (S4.1 2) := b2
          have hl4 : S4.1 2 = B_cs (j + 1) := by rw [e4]; exact s2
          refine s_X10_newSlot_80 ⟨by omega, by omega⟩ ⟨by omega, by omega⟩ ⟨by omega, by omega⟩ fun _ => ⟨fun z => absurd z (by omega), fun _ => ⟨t4.1, a, b1, S4.1 2, b2, ?_⟩⟩
          rw [t4.2.1 3, c4]
          refine ⟨⟨by omega, by omega⟩, fun M7 e7 _ => ?_⟩
          obtain ⟨t7, f7⟩ := t4.set (k := 2) (by decide) b1 (cnt : Int) (B_cs j + ((r + 1 : Nat) : Int) - 1)
          rw [← e7] at t7 f7
          have h73 : g_i M7 t 3 = cnt := by rw [t7.2.1 3]; exact c4
          rw [h73]
          refine ⟨⟨by omega, by omega⟩, fun M12 e12 _ => ⟨⟨by omega, by omega⟩, ?_⟩⟩
          obtain ⟨t12, f12⟩ := t7.fld 3 ((cnt : Int) + 1)
          rw [← e12] at t12 f12
          have h9 := ih (cnt + 1) _ M12 (by omega) t12 (f4.tr0 (f7.tr0 f12)) (g4.tr ((B_ag.set _ _ _ _ _ _ rfl).tr (B_ag.fld _ _ _ _ _ rfl))) e4 (by rw [B_fld_v, if_pos rfl]; omega) (by
            rw [B_dn_s]
            unfold B_il
            rw [List.map_append]
            refine b_app.mpr ⟨fun i v hi => ?_, b_cons.mpr ⟨?_, b_nil _ _⟩⟩
            · have := (List.getElem?_eq_some_iff.mp hi).1
              rw [List.length_map, B_dn_len] at this
              show (if 2 = 2 ∧ (0 : Int) + i = cnt then _ else S4.2.1 2 (0 + i)) = v
              rw [if_neg (by omega)]
              rw [show (B_cs j).toNat + (r + 1) = (B_cs j).toNat + r + 1 by omega] at at4
              exact at4 i v hi
            · show (if 2 = 2 ∧ (0 : Int) + ((List.map _ _).length : Nat) = cnt then _ else _) = _
              rw [List.length_map, B_dn_len, if_pos ⟨rfl, by omega⟩]
              show B_cs j + ((r + 1 : Nat) : Int) - 1 = (((B_cs j).toNat + r : Nat) : Int)
              omega) fun k => by rw [e12, g_r_wi, e7, g_r_wi]; exact hr4 k
          rw [show B_cs j + ((r + 1 : Nat) : Int) - 1 + -1 = B_cs j + (r : Int) - 1 by omega]
          exact h9
      have h9 := hlp w.toNat 0 S3 M38 (by omega) t38 (B_F.rf _ _) (B_ag.rf _ _ _) rfl s3 (b_nil _ _) fun _ => rfl
      rw [show B_cs j + (w.toNat : Int) - 1 = B_cs (j + 1) - 1 by omega] at h9
      exact h9
    refine ⟨a1, b1, S.1 1, b2, ⟨by omega, by omega⟩, fun g => ?_, fun g => ?_⟩
    · rw [l1] at g ⊢
      rw [if_pos g] at hnx
      exact h27 16 (by omega) (by omega)
    · rw [l1] at g ⊢
      rw [if_neg g] at hnx
      have e2 : (B_cs j).tdiv 2 = B_cs j / 2 := Int.tdiv_eq_ediv_of_nonneg (by omega)
      rw [e2]
      exact h27 _ (by omega) (by omega)
  · rw [h.2.1 3, h3] at z
    rcases List.eq_nil_or_concat FS with g | ⟨F0, s, g⟩
    · rw [g] at z
      exact absurd rfl z
    · rw [List.concat_eq_append] at g
      subst g
      refine c_popSlot h hs fun S1 M1 t1 f1 g1 e1 hs1 hr1 => hq s j F0 S1 M1 (Nat.le_refl _) t1 ?_ g1 (fun k _ => by rw [e1]) hs1 fun k _ => hr1 k
      rw [Int.sub_self, Int.sub_self]
      exact f1
theorem c_freeSlot {Q : g_M → Prop} {s : Nat} {u1 u2 : List Nat} (h : B_t t S M) (hs : B_sl S j FS (u1 ++ s :: u2)) (hq : ∀ S1 M1, B_t t S1 M1 → B_F t 0 0 M M1 → B_ag (fun k _ => k = 2) (fun k => k = 3) S S1 → S1.1 = S.1 → B_sl S1 j (FS ++ [s]) (u1 ++ u2) → Q M1) : g_Call (d + 1) 175 [.ref t, g_n s] M (g_qV Q) := by
  obtain ⟨⟨l0, l1, l2, l3⟩, h3, hat, hpm⟩ := id hs
  have hpl := hpm.length_eq
  rw [List.length_append, List.length_append, List.length_cons, List.length_range] at hpl
  have hcs := B_cs_le ⟨j, by omega⟩
  simp only at hcs
  have hsm : s < (B_cs j).toNat := by
    have : s ∈ List.range (B_cs j).toNat := hpm.mem_iff.mp (by simp)
    exact List.mem_range.mp this
  obtain ⟨a, b1, b2, -⟩ := h.at (k := 2) (by decide)
  have b2 : g_A M a 1 (S.1 2) := b2
  refine m_X10_freeSlot ⟨by omega, by omega⟩ fun _ => ⟨h.1, a, b1, S.1 2, b2, ⟨by omega, by omega⟩, ?_⟩
  rw [h.2.1 3, h3]
  refine ⟨fun _ => ⟨a, b1, S.1 2, b2, ⟨by omega, by omega⟩, fun M12 e12 _ => ?_⟩, fun z => absurd (by omega) z⟩
  obtain ⟨t12, f12⟩ := h.set (k := 2) (by decide) b1 (FS.length : Int) (s : Int)
  rw [← e12] at t12 f12
  have h93 : g_i M12 t 3 = FS.length := by rw [t12.2.1 3]; exact h3
  rw [h93]
  refine ⟨⟨by omega, by omega⟩, fun M17 e17 _ => ?_⟩
  obtain ⟨t17, f17⟩ := t12.fld 3 ((FS.length : Int) + 1)
  rw [← e17] at t17 f17
  refine hq _ M17 t17 (f12.tr0 f17) ((B_ag.set _ _ _ _ _ _ rfl).tr (B_ag.fld _ _ _ _ _ rfl)) rfl ⟨⟨l0, l1, l2, l3⟩, ?_, ?_, ?_⟩
  · rw [B_fld_v, if_pos rfl, List.length_append, List.length_singleton]
    omega
  · unfold B_il
    rw [List.map_append]
    refine b_app.mpr ⟨fun i v hi => ?_, b_cons.mpr ⟨?_, b_nil _ _⟩⟩
    · have := (List.getElem?_eq_some_iff.mp hi).1
      rw [List.length_map] at this
      show (if 2 = 2 ∧ (0 : Int) + i = FS.length then _ else S.2.1 2 (0 + i)) = v
      rw [if_neg (by omega)]
      exact hat i v hi
    · show (if 2 = 2 ∧ (0 : Int) + ((List.map _ _).length : Nat) = FS.length then _ else _) = _
      rw [List.length_map, if_pos ⟨rfl, by omega⟩]
  · rw [List.append_assoc]
    refine List.Perm.trans (List.Perm.append_left _ ?_) hpm
    show (s :: (u1 ++ u2)).Perm (u1 ++ s :: u2)
    exact List.perm_middle.symm
end BSL
