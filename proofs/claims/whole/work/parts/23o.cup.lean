/-! TREES OF THE CLASS: an entry comes -/
section CUP
variable {d t : Nat} {w1 w2 : Int} {sg : Nat} {e : I_E}
noncomputable def V_lf (cW : V_W → V_W → Int) (eW : V_W) : (h : Nat) → Nat → List (N_i V_W h) → Nat × List (N_i V_W 0)
  | 0, n, l => (n, l)
  | h + 1, n, l => match l.drop (N_dn cW eW h l) with
    | [] => (n, [])
    | x :: _ => V_lf cW eW h (V_n x.1) x.2
theorem V_lf_s {cW : V_W → V_W → Int} {eW : V_W} {h n : Nat} {A : List (N_i V_W (h + 1))} {x : N_i V_W (h + 1)} {B : List (N_i V_W (h + 1))} (hA : A.length = N_dn cW eW h (A ++ x :: B)) : V_lf cW eW (h + 1) n (A ++ x :: B) = V_lf cW eW h (V_n x.1) x.2 := by
  have h1 : (A ++ x :: B).drop (N_dn cW eW h (A ++ x :: B)) = x :: B := by rw [← hA, List.drop_left]
  show (match (A ++ x :: B).drop (N_dn cW eW h (A ++ x :: B)) with
    | [] => (n, [])
    | x :: _ => V_lf cW eW h (V_n x.1) x.2) = _
  rw [h1]
/-- the leaf at the way's end -/
theorem V_lf_D {cW : V_W → V_W → Int} {eW : V_W} {S : B_S} : ∀ {h lv n : Nat} {l : List (N_i V_W h)}, C_D S h n l → N_fl h l → (0 < h → l ≠ []) → C_way cW eW S h lv n l → C_D S 0 (V_lf cW eW h n l).1 (V_lf cW eW h n l).2 ∧ (V_lf cW eW h n l).1 ∈ V_ns h n l ∧ (∀ s ∈ V_us 0 (V_lf cW eW h n l).2, s ∈ V_us h l) ∧ (∀ x ∈ (V_lf cW eW h n l).2, x ∈ N_ins h l) ∧ S.2.1 10 (lv + h : Nat) = (V_lf cW eW h n l).1 := by
  intro h
  induction h with
  | zero =>
    intro lv n l hD _ _ hw
    exact ⟨hD, List.mem_singleton.mpr rfl, fun s hs => hs, fun x hx => List.mem_flatMap.mpr ⟨x, hx, List.mem_singleton.mpr rfl⟩, hw⟩
  | succ h ih =>
    intro lv n l hD hf hne hw
    obtain ⟨A, x, B, hs, hA⟩ := N_dn_split cW eW (hne (by omega))
    obtain ⟨w1, w2⟩ := hw
    obtain ⟨w3, w4⟩ := w2 A x B hs hA
    subst hs
    rw [V_lf_s hA]
    have hxm : x ∈ A ++ x :: B := List.mem_append_right _ List.mem_cons_self
    obtain ⟨⟨f1, -⟩, f2⟩ := N_fl_s.mp hf x hxm
    obtain ⟨i1, i2, i3, i4, i5⟩ := ih (hD.2.2.2 x hxm) f2 (fun _ z => by rw [z, List.length_nil] at f1; omega) w4
    refine ⟨i1, List.mem_cons_of_mem _ (List.mem_flatMap.mpr ⟨x, hxm, i2⟩), fun s hs => List.mem_append_right _ (List.mem_flatMap.mpr ⟨x, hxm, i3 s hs⟩), fun y hy => List.mem_flatMap.mpr ⟨x, hxm, i4 y hy⟩, ?_⟩
    rw [show lv + (h + 1) = lv + 1 + h by omega]
    exact i5
/-- where an entry comes in a leaf -/
theorem c_place {Q : g_M → Prop} {j a1 n : Nat} {N v2 v3 v4 v5 : Int} {l : List (N_i V_W 0)} {S : B_S} {M : g_M} (hv2 : g_InR v2) (hv3 : g_InR v3) (hv4 : g_InR v4) (hv5 : g_InR v5) (hB : B_t t S M) (hx : B_cx S j N w1 w2) (h18 : S.2.2 18 = sg) (he : B_eg S sg e) (hsg : (sg : Int) < B_cs j) (hD : C_D S 0 n l) (hn : (n : Int) < N) (hus : ∀ s ∈ V_us 0 l, (s : Int) < B_cs j) (hnew : ∀ x ∈ l, I_c w1 w2 (V_e x) e ≠ 0) (hq : g_Run (d + 47) 183 76 [(0, .ref t), (1, .ref a1), (2, g_n v2), (3, g_n v3), (4, g_n v4), (5, g_n v5), (6, g_n n), (7, g_n (N_pl (V_c w1 w2) ((sg, 0), e) (N_es l)))] [] M (g_qV Q)) : g_Run (d + 47) 183 31 [(0, .ref t), (1, .ref a1), (2, g_n v2), (3, g_n v3), (4, g_n v4), (5, g_n v5), (6, g_n n), (7, g_n 0)] [] M (g_qV Q) := by
  obtain ⟨⟨l4, l5, l6, l7, lN⟩, ⟨s0, s1, sj⟩, ⟨c12, c13, cw1, cw2⟩, y1, y2⟩ := id hx
  obtain ⟨⟨n1, n2, n3, n4⟩, d2, d3⟩ := C_D_0.mp hD
  rw [List.length_map] at n2
  obtain ⟨cn, c1, c2, c3⟩ := hB.at (k := 6) (by decide)
  obtain ⟨kd, k1, k2, k3⟩ := hB.at (k := 4) (by decide)
  have c2 : g_A M cn 1 (S.1 6) := c2
  have k2 : g_A M kd 1 (S.1 4) := k2
  have hcv : g_i M cn n = l.length := by rw [c3 _ (by omega) (by omega), n2]
  have hnR : g_InR (n : Int) := ⟨by omega, by omega⟩
  have hlp : ∀ (r P : List (N_i V_W 0)), l = P ++ r → N_pl (V_c w1 w2) ((sg, 0), e) (N_es l) = P.length + N_pl (V_c w1 w2) ((sg, 0), e) (N_es r) → g_Run (d + 47) 183 31 [(0, .ref t), (1, .ref a1), (2, g_n v2), (3, g_n v3), (4, g_n v4), (5, g_n v5), (6, g_n n), (7, g_n P.length)] [] M (g_qV Q) := by
    intro r
    induction r with
    | nil =>
      intro P h1 h2
      rw [List.append_nil] at h1
      have h3 : N_pl (V_c w1 w2) ((sg, 0), e) (N_es l) = P.length := h2
      have hpl := congrArg List.length h1
      rw [h3] at hq
      refine s_X10_comes_31 hv2 hv3 hv4 hv5 hnR ⟨by omega, by omega⟩ fun _ => ⟨hB.1, cn, c1, S.1 6, c2, ⟨by omega, by omega⟩, ?_⟩
      rw [hcv]
      exact ⟨fun z => absurd z (by omega), fun _ => hq⟩
    | cons y r ih =>
      intro P h1 h2
      have hpl := congrArg List.length h1
      rw [List.length_append, List.length_cons] at hpl
      have hy : y ∈ l := by rw [h1]; exact List.mem_append_right _ List.mem_cons_self
      have hyu : V_k 0 y ∈ V_us 0 l := List.mem_map.mpr ⟨y, hy, rfl⟩
      have hye := d3 y hy
      have hnz := hnew y hy
      refine s_X10_comes_31 hv2 hv3 hv4 hv5 hnR ⟨by omega, by omega⟩ fun _ => ⟨hB.1, cn, c1, S.1 6, c2, ⟨by omega, by omega⟩, ?_⟩
      rw [hcv]
      refine ⟨fun _ => ⟨kd, k1, ⟨by omega, by omega⟩, ⟨by omega, by omega⟩, S.1 4, k2, ⟨by omega, by omega⟩, ?_⟩, fun z => absurd (by omega) z⟩
      have hkv : g_i M kd ((n : Int) * 9 + P.length) = V_k 0 y := by
        rw [k3 _ (by omega) (by omega)]
        have := n3 P.length (V_k 0 y) (by
          unfold B_il
          rw [h1, List.getElem?_map, List.getElem?_map, List.getElem?_append_right (Nat.le_refl _), Nat.sub_self]
          rfl)
        exact (congrArg (S.2.1 4) (by omega)).trans this
      rw [hkv, hB.2.1 18, h18]
      refine c_compareSlots (d := d + 2) hB s0 s1 sj (hus _ hyu) hsg hye.1 he.1 hye.2 he.2 cw1 cw2 c12 c13 ?_
      intro _ _ _
      have hdm : N_pl (V_c w1 w2) ((sg, 0), e) (N_es (y :: r)) = if I_c w1 w2 (V_e y) e < 0 then N_pl (V_c w1 w2) ((sg, 0), e) (N_es r) + 1 else 0 := rfl
      rw [hdm] at h2
      refine ⟨fun z => ?_, fun z => ⟨⟨by omega, by omega⟩, ?_⟩⟩
      · rw [if_neg (by omega)] at h2
        have h3 : N_pl (V_c w1 w2) ((sg, 0), e) (N_es l) = P.length := h2
        rw [h3] at hq
        exact hq
      · rw [if_pos (by omega)] at h2
        have h9 := ih (P ++ [y]) (by rw [h1]; simp) (by rw [List.length_append, List.length_singleton]; omega)
        rw [List.length_append, List.length_singleton, show ((P.length + 1 : Nat) : Int) = (P.length : Int) + 1 by omega] at h9
        exact h9
  exact hlp l [] rfl (by rw [List.length_nil]; omega)
def V_GC (k : Int) : Prop := V_G4 k ∨ k = 15 ∨ k = 18
/-- the loop that splits: it ends where a node has not too many -/
theorem c_lp {Q : g_M → Prop} {j i a1 n lv : Nat} {FS us FN ns : List Nat} {v2 v3 v4 v5 v6 v7 : Int} {h : Nat} {lp : List (N_i V_W h)} {S : B_S} {M : g_M} (hv2 : g_InR v2) (hv3 : g_InR v3) (hv4 : g_InR v4) (hv5 : g_InR v5) (hv6 : g_InR v6) (hv7 : g_InR v7) (hB : B_t t S M) (ha : B_all S j i FS us FN ns w1 w2) (hD : C_D S h n lp) (hn : n ∈ ns) (hw : S.2.1 10 lv = n) (hlv : lv ≤ 14) (hK : (lp.length ≤ 8 → Q M) ∧ (8 < lp.length → g_Run (d + 47) 183 110 [(0, .ref t), (1, .ref a1), (2, g_n v2), (3, g_n v3), (4, g_n v4), (5, g_n v5), (6, g_n v6), (7, g_n v7), (8, g_n lv)] [] M (g_qV Q))) : g_Run (d + 47) 183 110 [(0, .ref t), (1, .ref a1), (2, g_n v2), (3, g_n v3), (4, g_n v4), (5, g_n v5), (6, g_n v6), (7, g_n v7), (8, g_n lv)] [] M (g_qV Q) := by
  by_cases g : 8 < lp.length
  · exact hK.2 g
  · obtain ⟨⟨n1, n2, n3, n4⟩, d2⟩ := hD.no
    rw [List.length_map] at n2
    obtain ⟨l4, l5, l6, l7, lN⟩ := ha.ln
    have hnl := ha.2.1.lt hn
    obtain ⟨-, -, -, y1, y2⟩ := id ha
    obtain ⟨cn, c1, c2, c3⟩ := hB.at (k := 6) (by decide)
    obtain ⟨wn, p1, p2, p3⟩ := hB.at (k := 10) (by decide)
    have c2 : g_A M cn 1 (S.1 6) := c2
    have p2 : g_A M wn 1 (S.1 10) := p2
    refine s_X10_comes_110 hv2 hv3 hv4 hv5 hv6 hv7 ⟨by omega, by omega⟩ fun _ => ⟨fun z => absurd z (by omega), fun _ => ⟨hB.1, cn, c1, wn, p1, S.1 10, p2, ⟨by omega, by omega⟩, ?_⟩⟩
    rw [p3 _ (by omega) (by omega), hw]
    refine ⟨S.1 6, c2, ⟨by omega, by omega⟩, ?_⟩
    rw [c3 _ (by omega) (by omega), n2]
    exact ⟨fun z => absurd z (by omega), fun _ => hK.1 (by omega)⟩
end CUP
