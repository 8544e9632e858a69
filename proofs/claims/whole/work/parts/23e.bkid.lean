/-! TREES OF THE CLASS: a node's kids and marks -/
def B_no (S : B_S) (n : Nat) (f : Int) (ks ms : List Nat) : Prop := S.2.1 7 n = f ∧ S.2.1 6 n = ks.length ∧ b_at (S.2.1 4) (9 * n) (B_il ks) ∧ b_at (S.2.1 5) (9 * n) (B_il ms)
theorem B_il_len (l : List Nat) : (B_il l).length = l.length := List.length_map _
theorem B_il_app (l t : List Nat) : B_il (l ++ t) = B_il l ++ B_il t := List.map_append
theorem B_il_c (x : Nat) (t : List Nat) : B_il (x :: t) = (x : Int) :: B_il t := rfl
/-- there is room for so many nodes -/
def B_ln (S : B_S) (N : Int) : Prop := S.1 4 = 9 * N ∧ S.1 5 = 9 * N ∧ S.1 6 = N ∧ S.1 7 = N ∧ N ≤ 454
theorem B_nd.ln {S : B_S} {i : Nat} {FN ns : List Nat} (h : B_nd S i FN ns) : B_ln S (B_cn i) := by
  obtain ⟨⟨l4, l5, l6, l7, l8, li⟩, -⟩ := h
  have hcs := B_cn_le ⟨i, by omega⟩
  simp only at hcs
  exact ⟨l4, l5, l6, l7, by omega⟩
theorem B_nd.lt {S : B_S} {i n : Nat} {FN ns : List Nat} (h : B_nd S i FN ns) (hn : n ∈ ns) : (n : Int) < B_cn i := by
  have : n ∈ List.range (B_cn i).toNat := h.2.2.2.mem_iff.mp (List.mem_append_right _ hn)
  have := List.mem_range.mp this
  omega
theorem B_sl.lt {S : B_S} {j s : Nat} {FS us : List Nat} (h : B_sl S j FS us) (hs : s ∈ us) : (s : Int) < B_cs j := by
  have : s ∈ List.range (B_cs j).toNat := h.2.2.2.mem_iff.mp (List.mem_append_right _ hs)
  have := List.mem_range.mp this
  omega
/-- the places of a node's kids, marks and number -/
def B_kA (n : Nat) (k : Nat) (q : Int) : Prop := (k = 4 ∧ 9 * (n : Int) ≤ q ∧ q < 9 * n + 9) ∨ (k = 6 ∧ q = n)
def B_mA (n : Nat) (k : Nat) (q : Int) : Prop := k = 5 ∧ 9 * (n : Int) ≤ q ∧ q < 9 * n + 9
def B_0 (_ : Int) : Prop := False
theorem B_no.ag {A : Nat → Int → Prop} {G : Int → Prop} {S S1 : B_S} {n : Nat} {f N : Int} {ks ms : List Nat} (h : B_no S n f ks ms) (hl : B_ln S N) (hn : (n : Int) < N) (hk9 : ks.length ≤ 9) (hm9 : ms.length ≤ 9) (g : B_ag A G S S1) (h4 : ∀ q : Int, 9 * (n : Int) ≤ q → q < 9 * n + 9 → ¬ A 4 q ∧ ¬ A 5 q) (h6 : ¬ A 6 n) (h7 : ¬ A 7 n) : B_no S1 n f ks ms := by
  obtain ⟨n1, n2, n3, n4⟩ := h
  obtain ⟨l4, l5, l6, l7, -⟩ := hl
  refine ⟨by rw [g.2.1 7 n h7 (by omega) (by omega)]; exact n1, by rw [g.2.1 6 n h6 (by omega) (by omega)]; exact n2, b_at_keep n3 fun q q1 q2 => ?_, b_at_keep n4 fun q q1 q2 => ?_⟩
  · rw [B_il_len] at q2
    exact g.2.1 4 q (h4 q (by omega) (by omega)).1 (by omega) (by omega)
  · rw [B_il_len] at q2
    exact g.2.1 5 q (h4 q (by omega) (by omega)).2 (by omega) (by omega)
theorem b_at_cut {B B1 : Int → Int} {p : Int} {x y : List Int} {v : Int} (h : b_at B p (x ++ y)) (h1 : ∀ i : Int, 0 ≤ i → i < x.length → B1 (p + i) = B (p + i)) (h2 : B1 (p + x.length) = v) (h3 : ∀ i : Int, 0 ≤ i → i < y.length → B1 (p + x.length + 1 + i) = B (p + x.length + i)) : b_at B1 p (x ++ v :: y) := by
  obtain ⟨g1, g2⟩ := b_app.mp h
  refine b_app.mpr ⟨fun i w hi => ?_, b_cons.mpr ⟨h2, fun i w hi => ?_⟩⟩
  · have := (List.getElem?_eq_some_iff.mp hi).1
    rw [h1 i (by omega) (by omega)]
    exact g1 i w hi
  · have := (List.getElem?_eq_some_iff.mp hi).1
    rw [h3 i (by omega) (by omega)]
    exact g2 i w hi
theorem b_at_out {B B1 : Int → Int} {p : Int} {x y : List Int} {v : Int} (h : b_at B p (x ++ v :: y)) (h1 : ∀ i : Int, 0 ≤ i → i < x.length → B1 (p + i) = B (p + i)) (h3 : ∀ i : Int, 0 ≤ i → i < y.length → B1 (p + x.length + i) = B (p + x.length + 1 + i)) : b_at B1 p (x ++ y) := by
  obtain ⟨g1, g2⟩ := b_app.mp h
  obtain ⟨-, g2⟩ := b_cons.mp g2
  refine b_app.mpr ⟨fun i w hi => ?_, fun i w hi => ?_⟩
  · have := (List.getElem?_eq_some_iff.mp hi).1
    rw [h1 i (by omega) (by omega)]
    exact g1 i w hi
  · have := (List.getElem?_eq_some_iff.mp hi).1
    rw [h3 i (by omega) (by omega)]
    exact g2 i w hi
section BKID
variable {d t : Nat} {S : B_S} {M : g_M} {N : Int}
theorem c_insertKid {Q : g_M → Prop} {n k : Nat} {f : Int} {A B ms : List Nat} (h : B_t t S M) (hl : B_ln S N) (hn : (n : Int) < N) (hno : B_no S n f (A ++ B) ms) (h8 : (A ++ B).length ≤ 8) (hk : k < 10000) (hm9 : ms.length ≤ 9) (hq : ∀ S1 M1, B_t t S1 M1 → B_F t 0 0 M M1 → B_ag (B_kA n) B_0 S S1 → S1.1 = S.1 → B_no S1 n f (A ++ k :: B) ms → Q M1) : g_Call (d + 1) 184 [.ref t, g_n n, g_n A.length, g_n k] M (g_qV Q) := by
  obtain ⟨l4, l5, l6, l7, lN⟩ := id hl
  obtain ⟨n1, n2, n3, n4⟩ := id hno
  rw [List.length_append] at h8 n2
  obtain ⟨kd, k1, k2, -⟩ := h.at (k := 4) (by decide)
  obtain ⟨cn, c1, c2, c3⟩ := h.at (k := 6) (by decide)
  have k2 : g_A M kd 1 (S.1 4) := k2
  have c2 : g_A M cn 1 (S.1 6) := c2
  have hcv : g_i M cn n = (A.length + B.length : Nat) := by rw [c3 _ (by omega) (by omega), n2]
  refine m_X10_insertKid ⟨by omega, by omega⟩ ⟨by omega, by omega⟩ ⟨by omega, by omega⟩ fun _ => ⟨⟨by omega, by omega⟩, ⟨by omega, by omega⟩, h.1, cn, c1, S.1 6, c2, ⟨by omega, by omega⟩, ?_⟩
  rw [hcv]
  refine ⟨fun _ => ⟨kd, k1, kd, k1, ⟨by omega, by omega⟩, cn, c1, S.1 6, c2, ⟨by omega, by omega⟩, ?_⟩, fun z => absurd (by omega) z⟩
  rw [hcv]
  refine ⟨⟨by omega, by omega⟩, S.1 4, k2, S.1 4, k2, ⟨by omega, by omega, by omega, by omega, by omega⟩, fun M25 e25 _ => ?_⟩
  obtain ⟨t25, f25⟩ := h.cpy (k := 4) (k1 := 4) (sp := (n : Int) * 9 + A.length) (dp := (n : Int) * 9 + A.length + 1) (n := ((A.length + B.length : Nat) : Int) - A.length) (by decide) (by decide) k1 k1 (by omega) (by omega)
  rw [← e25] at t25 f25
  obtain ⟨kd2, k3, k4, -⟩ := t25.at (k := 4) (by decide)
  have k4 : g_A M25 kd2 1 (S.1 4) := k4
  refine ⟨kd2, k3, S.1 4, k4, ⟨by omega, by omega⟩, fun M34 e34 _ => ?_⟩
  obtain ⟨t34, f34⟩ := t25.set (k := 4) (by decide) k3 ((n : Int) * 9 + A.length) (k : Int)
  rw [← e34] at t34 f34
  obtain ⟨cn2, c4, c5, c6⟩ := t34.at (k := 6) (by decide)
  have c5 : g_A M34 cn2 1 (S.1 6) := c5
  have hcv2 : g_i M34 cn2 n = (A.length + B.length : Nat) := by
    rw [c6 _ (by omega) (by show (n : Int) < S.1 6; omega)]
    exact n2
  refine ⟨cn2, c4, S.1 6, c5, ⟨by omega, by omega⟩, ?_⟩
  rw [hcv2]
  refine ⟨⟨by omega, by omega⟩, ⟨by omega, by omega⟩, fun M45 e45 _ => ?_⟩
  obtain ⟨t45, f45⟩ := t34.set (k := 6) (by decide) c4 (n : Int) (((A.length + B.length : Nat) : Int) + 1)
  rw [← e45] at t45 f45
  obtain ⟨S5, hS5⟩ : ∃ S5, S5 = B_set (B_set (B_cp S 4 4 ((n : Int) * 9 + A.length) ((n : Int) * 9 + A.length + 1) (((A.length + B.length : Nat) : Int) - A.length)) 4 ((n : Int) * 9 + A.length) k) 6 n (((A.length + B.length : Nat) : Int) + 1) := ⟨_, rfl⟩
  rw [← hS5] at t45
  have hv : ∀ (k2 : Nat) (q : Int), S5.2.1 k2 q = if k2 = 6 ∧ q = n then ((A.length + B.length : Nat) : Int) + 1 else if k2 = 4 ∧ q = (n : Int) * 9 + A.length then (k : Int) else if k2 = 4 ∧ (n : Int) * 9 + A.length + 1 ≤ q ∧ q < (n : Int) * 9 + A.length + 1 + (((A.length + B.length : Nat) : Int) - A.length) then S.2.1 4 ((n : Int) * 9 + A.length + (q - ((n : Int) * 9 + A.length + 1))) else S.2.1 k2 q := fun k2 q => by
    rw [hS5, B_set_v, B_set_v, B_cp_v]
  refine hq S5 M45 t45 ((f25.tr0 f34).tr0 f45) ⟨fun k2 => by rw [hS5]; exact Int.le_refl _, fun k2 q hA h0 hq2 => ?_, fun k2 _ => by rw [hS5]; rfl⟩ (by rw [hS5]; rfl) ⟨?_, ?_, ?_, ?_⟩
  · rw [hv, if_neg fun z => hA (Or.inr z), if_neg fun z => hA (Or.inl ⟨z.1, by omega, by omega⟩), if_neg fun z => hA (Or.inl ⟨z.1, by omega, by omega⟩)]
  · rw [hv, if_neg (by omega), if_neg (by omega), if_neg (by omega)]
    exact n1
  · rw [hv, if_pos ⟨rfl, rfl⟩, List.length_append, List.length_cons]
    omega
  · rw [B_il_app, B_il_c]
    rw [B_il_app] at n3
    refine b_at_cut n3 (fun i i0 i1 => ?_) ?_ fun i i0 i1 => ?_
    · rw [B_il_len] at i1
      rw [hv, if_neg (by omega), if_neg (by omega), if_neg (by omega)]
    · rw [B_il_len, hv, if_neg (by omega), if_pos ⟨rfl, by omega⟩]
    · rw [B_il_len] at i1 ⊢
      rw [hv, if_neg (by omega), if_neg (by omega), if_pos ⟨rfl, by omega, by omega⟩]
      exact congrArg (S.2.1 4) (by omega)
  · refine b_at_keep n4 fun q q1 q2 => ?_
    rw [hv, if_neg (by omega), if_neg (by omega), if_neg (by omega)]
theorem c_removeKid {Q : g_M → Prop} {n k : Nat} {f : Int} {A B ms : List Nat} (h : B_t t S M) (hl : B_ln S N) (hn : (n : Int) < N) (hno : B_no S n f (A ++ k :: B) ms) (h8 : (A ++ k :: B).length ≤ 9) (hm9 : ms.length ≤ 9) (hq : ∀ S1 M1, B_t t S1 M1 → B_F t 0 0 M M1 → B_ag (B_kA n) B_0 S S1 → S1.1 = S.1 → B_no S1 n f (A ++ B) ms → Q M1) : g_Call (d + 1) 185 [.ref t, g_n n, g_n A.length] M (g_qV Q) := by
  obtain ⟨l4, l5, l6, l7, lN⟩ := id hl
  obtain ⟨n1, n2, n3, n4⟩ := id hno
  rw [List.length_append, List.length_cons] at h8 n2
  obtain ⟨kd, k1, k2, -⟩ := h.at (k := 4) (by decide)
  obtain ⟨cn, c1, c2, c3⟩ := h.at (k := 6) (by decide)
  have k2 : g_A M kd 1 (S.1 4) := k2
  have c2 : g_A M cn 1 (S.1 6) := c2
  have hcv : g_i M cn n = (A.length + (B.length + 1) : Nat) := by rw [c3 _ (by omega) (by omega), n2]
  refine m_X10_removeKid ⟨by omega, by omega⟩ ⟨by omega, by omega⟩ fun _ => ⟨⟨by omega, by omega⟩, ⟨by omega, by omega⟩, h.1, cn, c1, S.1 6, c2, ⟨by omega, by omega⟩, ?_⟩
  rw [hcv]
  refine ⟨fun _ => ⟨kd, k1, ⟨by omega, by omega⟩, kd, k1, cn, c1, S.1 6, c2, ⟨by omega, by omega⟩, ?_⟩, fun z => absurd (by omega) z⟩
  rw [hcv]
  refine ⟨⟨by omega, by omega⟩, ⟨by omega, by omega⟩, S.1 4, k2, S.1 4, k2, ⟨by omega, by omega, by omega, by omega, by omega⟩, fun M25 e25 _ => ?_⟩
  obtain ⟨t25, f25⟩ := h.cpy (k := 4) (k1 := 4) (sp := (n : Int) * 9 + A.length + 1) (dp := (n : Int) * 9 + A.length) (n := ((A.length + (B.length + 1) : Nat) : Int) - A.length - 1) (by decide) (by decide) k1 k1 (by omega) (by omega)
  rw [← e25] at t25 f25
  obtain ⟨cn2, c4, c5, c6⟩ := t25.at (k := 6) (by decide)
  have c5 : g_A M25 cn2 1 (S.1 6) := c5
  have hcv2 : g_i M25 cn2 n = (A.length + (B.length + 1) : Nat) := by
    rw [c6 _ (by omega) (by show (n : Int) < S.1 6; omega)]
    rw [B_cp_v, if_neg (by omega)]
    exact n2
  refine ⟨cn2, c4, S.1 6, c5, ⟨by omega, by omega⟩, ?_⟩
  rw [hcv2]
  refine ⟨⟨by omega, by omega⟩, ⟨by omega, by omega⟩, fun M45 e45 _ => ?_⟩
  obtain ⟨t45, f45⟩ := t25.set (k := 6) (by decide) c4 (n : Int) (((A.length + (B.length + 1) : Nat) : Int) - 1)
  rw [← e45] at t45 f45
  obtain ⟨S5, hS5⟩ : ∃ S5, S5 = B_set (B_cp S 4 4 ((n : Int) * 9 + A.length + 1) ((n : Int) * 9 + A.length) (((A.length + (B.length + 1) : Nat) : Int) - A.length - 1)) 6 n (((A.length + (B.length + 1) : Nat) : Int) - 1) := ⟨_, rfl⟩
  rw [← hS5] at t45
  have hv : ∀ (k2 : Nat) (q : Int), S5.2.1 k2 q = if k2 = 6 ∧ q = n then ((A.length + (B.length + 1) : Nat) : Int) - 1 else if k2 = 4 ∧ (n : Int) * 9 + A.length ≤ q ∧ q < (n : Int) * 9 + A.length + (((A.length + (B.length + 1) : Nat) : Int) - A.length - 1) then S.2.1 4 ((n : Int) * 9 + A.length + 1 + (q - ((n : Int) * 9 + A.length))) else S.2.1 k2 q := fun k2 q => by
    rw [hS5, B_set_v, B_cp_v]
  refine hq S5 M45 t45 (f25.tr0 f45) ⟨fun k2 => by rw [hS5]; exact Int.le_refl _, fun k2 q hA h0 hq2 => ?_, fun k2 _ => by rw [hS5]; rfl⟩ (by rw [hS5]; rfl) ⟨?_, ?_, ?_, ?_⟩
  · rw [hv, if_neg fun z => hA (Or.inr z), if_neg fun z => hA (Or.inl ⟨z.1, by omega, by omega⟩)]
  · rw [hv, if_neg (by omega), if_neg (by omega)]
    exact n1
  · rw [hv, if_pos ⟨rfl, rfl⟩, List.length_append]
    omega
  · rw [B_il_app]
    rw [B_il_app, B_il_c] at n3
    refine b_at_out n3 (fun i i0 i1 => ?_) fun i i0 i1 => ?_
    · rw [B_il_len] at i1
      rw [hv, if_neg (by omega), if_neg (by omega)]
    · rw [B_il_len] at i1 ⊢
      rw [hv, if_neg (by omega), if_pos ⟨rfl, by omega, by omega⟩]
      exact congrArg (S.2.1 4) (by omega)
  · refine b_at_keep n4 fun q q1 q2 => ?_
    rw [hv, if_neg (by omega), if_neg (by omega)]
end BKID
