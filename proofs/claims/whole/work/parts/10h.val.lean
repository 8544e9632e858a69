/-! VALUES AND THEIR ORDER -/
def b_fn (vb : List Int) : Int → Int := fun i => vb.getD i.toNat 0
theorem b_fn_at {B : Int → Int} {p i : Int} {vb : List Int} (h : b_at B p vb) (h0 : 0 ≤ i) (h1 : i < vb.length) : B (p + i) = b_fn vb i := by
  have h2 : i.toNat < vb.length := by omega
  have h3 := h i.toNat _ (List.getElem?_eq_getElem h2)
  rw [show ((i.toNat : Nat) : Int) = i by omega] at h3
  rw [h3]
  unfold b_fn
  rw [List.getD_eq_getElem?_getD, List.getElem?_eq_getElem h2]
  rfl
theorem b_fn_w4 {B : Int → Int} {p i : Int} {vb : List Int} (h : b_at B p vb) (h0 : 0 ≤ i) (h1 : i + 4 ≤ vb.length) : b_w4 B (p + i) = b_w4 (b_fn vb) i := by
  refine b_w4_eq (b_fn_at h h0 (by omega)) ?_ ?_ ?_
  · rw [show p + i + 1 = p + (i + 1) by omega]
    exact b_fn_at h (by omega) (by omega)
  · rw [show p + i + 2 = p + (i + 2) by omega]
    exact b_fn_at h (by omega) (by omega)
  · rw [show p + i + 3 = p + (i + 3) by omega]
    exact b_fn_at h (by omega) (by omega)
def v_num (k : Int) (vb : List Int) : Int64 := if k = 16 then Int64.ofInt (b_w4 (b_fn vb) 0) else ((Int64.ofInt (b_w4 (b_fn vb) 0)) &&& 4294967295) ||| ((Int64.ofInt (b_w4 (b_fn vb) 4)) <<< ((Int32.ofInt 32).toInt64 &&& 63))
def v_ncmp (X Y : Int64) : Int := if g_lc X Y < 0 then -1 else if g_lc X Y = 0 then 0 else 1
def v_tcmp (x y : Int) : Int := if x < y then -1 else if x = y then 0 else 1
def v_txt (vb : List Int) : List Int := (vb.drop 4).dropLast
def v_cmpL (f : Int → List Int → Int → List Int → Int) (rows : Bool) : List b_E → List b_E → Int
  | [], [] => 0
  | [], _ :: _ => -1
  | _ :: _, [] => 1
  | e :: es, g :: gs =>
    if b_cl e.1 < b_cl g.1 then -1 else if b_cl g.1 < b_cl e.1 then 1
    else if (bif rows then 0 else b_cmp e.2.1 g.2.1) = 0 then
      (if f e.1 e.2.2 g.1 g.2.2 = 0 then v_cmpL f rows es gs else f e.1 e.2.2 g.1 g.2.2)
    else b_cmp e.2.1 g.2.1
/-- the order of values; F: how deep it looks -/
noncomputable def v_cmp : Nat → Int → List Int → Int → List Int → Int
  | 0, _, _, _, _ => 0
  | F + 1, k, vb, k2, vb2 =>
    if b_cl k < b_cl k2 then -1 else if b_cl k2 < b_cl k then 1
    else if b_cl k < 2 then 0
    else if b_cl k = 2 then v_ncmp (v_num k vb) (v_num k2 vb2)
    else if b_cl k = 3 then b_cmp (v_txt vb) (v_txt vb2)
    else if b_cl k = 6 then v_tcmp (b_fn vb 0) (b_fn vb2 0)
    else v_cmpL (v_cmp F) (b_cl k == 5) (b_ch vb) (b_ch vb2)
/-- an element stands in a row of bytes: D documents deep at most -/
def b_st (B : Int → Int) (n p : Int) (D : Nat) (k : Int) (nm vb : List Int) : Prop := b_at B p (b_el k nm vb) ∧ b_nz nm ∧ b_gv D k vb ∧ 0 ≤ p ∧ p + (b_el k nm vb).length ≤ n
theorem b_st.nm {B : Int → Int} {n p k : Int} {D : Nat} {nm vb : List Int} (h : b_st B n p D k nm vb) : b_nm B n p (p + 1 + nm.length) := by
  obtain ⟨h1, h2, h3, h4, h5⟩ := h
  rw [b_el_len] at h5
  exact b_el_nm h1 h2 h4 (by omega)
theorem b_st.val {B : Int → Int} {n p k : Int} {D : Nat} {nm vb : List Int} (h : b_st B n p D k nm vb) : b_at B (p + 2 + nm.length) vb ∧ p + 2 + nm.length + vb.length ≤ n ∧ 0 ≤ p ∧ B p = k := by
  obtain ⟨h1, h2, h3, h4, h5⟩ := h
  rw [b_el_len] at h5
  obtain ⟨e0, e1, e2, e3⟩ := b_el_at h1
  exact ⟨e3, by omega, h4, e0⟩
/-- the elements of a document that stands somewhere stand there too -/
def b_sts (B : Int → Int) (n q : Int) (D : Nat) (es : List b_E) : Prop := b_at B q (b_ser es) ∧ (∀ e ∈ es, b_nz e.2.1 ∧ b_gv D e.1 e.2.2) ∧ 0 ≤ q ∧ q + (b_ser es).length < n ∧ B (q + (b_ser es).length) = 0
theorem b_sts.cons {B : Int → Int} {n q : Int} {D : Nat} {e : b_E} {es : List b_E} (h : b_sts B n q D (e :: es)) : b_st B n q D e.1 e.2.1 e.2.2 ∧ b_sts B n (q + (b_el e.1 e.2.1 e.2.2).length) D es := by
  obtain ⟨h1, h2, h3, h4, h5⟩ := h
  obtain ⟨b1, b2⟩ := b_ser_cons_at h1
  rw [b_ser_len] at h4 h5
  have he := h2 e List.mem_cons_self
  refine ⟨⟨b1, he.1, he.2, h3, by omega⟩, b2, fun f hf => h2 f (List.mem_cons_of_mem _ hf), by omega, by omega, ?_⟩
  rwa [show q + ((b_el e.1 e.2.1 e.2.2).length : Int) + (b_ser es).length = q + (((b_el e.1 e.2.1 e.2.2).length + (b_ser es).length : Nat) : Int) by omega]
theorem b_st.sts {B : Int → Int} {n p k : Int} {D : Nat} {nm : List Int} {es : List b_E} (h : b_at B p (b_el k nm (b_doc es))) (h2 : ∀ e ∈ es, b_nz e.2.1 ∧ b_gv D e.1 e.2.2) (h0 : 0 ≤ p) (h1 : p + (b_el k nm (b_doc es)).length ≤ n) : b_sts B n (p + 6 + nm.length) D es := by
  obtain ⟨e0, e1, e2, e3⟩ := b_el_at h
  rw [b_el_len, b_doc_len] at h1
  obtain ⟨-, s1, s2⟩ := b_doc_at e3
  refine ⟨by rwa [show p + 6 + (nm.length : Int) = p + 2 + nm.length + 4 by omega], h2, by omega, by omega, ?_⟩
  rwa [show p + 6 + (nm.length : Int) + (b_ser es).length = p + 2 + nm.length + 4 + (b_ser es).length by omega]
section V7
variable {d a a2 : Nat} {M : g_M} {Q : Int → g_M → Prop} {n n2 p p2 k k2 : Int} {nm nm2 vb vb2 : List Int} {D D2 : Nat}
theorem c_va2 (hA : g_A M a 0 n) (hn : n ≤ 1000000000) (hs : b_st (g_i M a) n p D k nm vb) (h : Q (p + 2 + nm.length) M) : g_Call (d + 1) 110 [.ref a, g_n p] M (g_qI Q) := by
  have hl := hA.len
  exact c_va hA ⟨by omega, by omega⟩ hs.nm (by rwa [show p + 1 + (nm.length : Int) + 1 = p + 2 + nm.length by omega])
theorem c_nx2 (hA : g_A M a 0 n) (hn : n ≤ 1000000000) (hs : b_st (g_i M a) n p D k nm vb) (h : Q (p + (b_el k nm vb).length) M) : g_Call (d + 1) 111 [.ref a, g_n p] M (g_qI Q) :=
  c_next hA hn hs.1 hs.2.1 (b_gv_vs hs.2.2.1) hs.2.2.2.1 hs.2.2.2.2 h
theorem c_cl2 (hA : g_A M a 0 n) (hn : n ≤ 1000000000) (hs : b_st (g_i M a) n p D k nm vb) (h : Q (b_cl k) M) : g_Call (d + 1) 120 [.ref a, g_n p] M (g_qI Q) := by
  have hl := hA.len
  obtain ⟨h1, h2, h3, h4⟩ := hs.val
  refine c_classOf hA ⟨by omega, by omega⟩ ⟨by omega, by omega⟩ ?_
  rw [if_neg (by omega), if_pos (by omega), h4]
  exact h
theorem c_kd2 (hA : g_A M a 0 n) (hn : n ≤ 1000000000) (hs : b_st (g_i M a) n p D k nm vb) (h : Q k M) : g_Call (d + 1) 108 [.ref a, g_n p] M (g_qI Q) := by
  have hl := hA.len
  obtain ⟨h1, h2, h3, h4⟩ := hs.val
  refine c_kind hA ⟨by omega, by omega⟩ ⟨by omega, by omega⟩ ?_
  rw [b_kd_in h3 (by omega), h4]
  exact h
theorem c_wh {Q : Int64 → g_M → Prop} (hA : g_A M a 0 n) (hn : n ≤ 1000000000) (hs : b_st (g_i M a) n p D k nm vb) (hk : k = 16 ∨ k = 18) (h : Q (v_num k vb) M) : g_Call (d + 2) 118 [.ref a, g_n p] M (g_qL Q) := by
  have hl := hA.len
  obtain ⟨h1, h2, h3, h4⟩ := hs.val
  have hlen : (k = 16 ∧ vb.length = 4) ∨ (k = 18 ∧ vb.length = 8) := by
    rcases b_gv_vs hs.2.2.1 with g | g | ⟨g, -⟩ | ⟨g, -⟩ | ⟨g, -⟩ | ⟨g, -⟩ <;> omega
  have w0 : b_w4 (g_i M a) (p + 2 + nm.length) = b_w4 (b_fn vb) 0 := by
    have := b_fn_w4 h1 (i := 0) (by omega) (by omega)
    rwa [show p + 2 + (nm.length : Int) + 0 = p + 2 + nm.length by omega] at this
  refine m_X7_whole ⟨by omega, by omega⟩ fun _ => c_va2 hA hn hs fun _ _ _ => c_w4 hA ⟨by omega, by omega⟩ (by omega) (by omega) fun _ _ _ => c_kd2 hA hn hs fun _ _ _ => ?_
  rw [w0]
  unfold v_num at h
  refine ⟨fun g => ?_, fun g => ⟨⟨by omega, by omega⟩, c_w4 hA ⟨by omega, by omega⟩ (by omega) (by omega) fun _ _ _ => ?_⟩⟩
  · rwa [if_pos g] at h
  · rw [if_neg g] at h
    rw [b_fn_w4 h1 (by omega) (by omega)]
    exact h
theorem v_ncmp_J {X Y : Int64} (h : Q (v_ncmp X Y) M) : g_Call (d + 1) 441 [.long X, .long Y] M (g_qI Q) := by
  unfold v_ncmp at h
  refine m_J13_compare fun _ => ⟨fun g => ?_, fun g => ⟨fun g2 => ?_, fun g2 => ?_⟩⟩
  · rwa [if_pos g] at h
  · rwa [if_neg g, if_pos g2] at h
  · rwa [if_neg g, if_neg g2] at h
theorem v_tcmp_J {x y : Int} (hx : g_InR x) (hy : g_InR y) (h : Q (v_tcmp x y) M) : g_Call (d + 1) 440 [g_n x, g_n y] M (g_qI Q) := by
  unfold v_tcmp at h
  refine m_J6_compare hx hy fun _ => ⟨fun g => ?_, fun g => ⟨fun g2 => ?_, fun g2 => ?_⟩⟩
  · rwa [if_pos g] at h
  · rwa [if_neg g, if_pos g2] at h
  · rwa [if_neg g, if_neg g2] at h
theorem b_cl_R (k : Int) : 1 ≤ b_cl k ∧ b_cl k ≤ 6 := by
  unfold b_cl
  repeat' split
  all_goals omega
/-- a good value's kind by its class -/
theorem b_cl_k (h : b_gv D k vb) : (b_cl k = 1 → k = 10) ∧ (b_cl k = 2 → k = 16 ∨ k = 18) ∧ (b_cl k = 3 → k = 2) ∧ (b_cl k = 4 → k = 3) ∧ (b_cl k = 5 → k = 4) ∧ (b_cl k = 6 → k = 8) := by
  have hv := b_gv_vs h
  unfold b_cl
  rcases hv with ⟨rfl, -⟩ | ⟨rfl, -⟩ | ⟨rfl, -⟩ | ⟨rfl, -⟩ | ⟨rfl, -⟩ | ⟨rfl | rfl, -⟩ <;> simp
/-- a text's bytes -/
theorem b_gv_txt (h : b_gv D 2 vb) : ∃ s : List Int, vb = b_le4 (s.length + 1) ++ (s ++ [0]) ∧ s.length < 16777000 ∧ v_txt vb = s := by
  have hlf : b_lf 2 vb := by
    cases D with
    | zero => exact h
    | succ D =>
      rcases h with h | ⟨hk, -⟩
      · exact h
      · omega
  rcases hlf with ⟨h, -⟩ | ⟨h, -⟩ | ⟨h, -⟩ | ⟨h, -⟩ | ⟨-, s, rfl, hl⟩
  · omega
  · omega
  · omega
  · omega
  · refine ⟨s, rfl, hl, ?_⟩
    unfold v_txt
    rw [show b_le4 (s.length + 1) ++ (s ++ [0]) = b_le4 (s.length + 1) ++ (s ++ [0]) from rfl, List.drop_left' (by rfl)]
    simp
theorem c_kdE {q : Int} (hA : g_A M a 0 n) (hn : n ≤ 1000000000) (hs : b_sts (g_i M a) n q D []) (h : Q 0 M) : g_Call (d + 1) 108 [.ref a, g_n q] M (g_qI Q) := by
  obtain ⟨-, -, h3, h4, h5⟩ := hs
  rw [show b_ser [] = [] from rfl, List.length_nil] at h4 h5
  refine c_kind hA ⟨by omega, by omega⟩ ⟨by omega, by omega⟩ ?_
  rw [b_kd_in h3 (by omega)]
  rw [show q + ((0 : Nat) : Int) = q by omega] at h5
  rw [h5]
  exact h
theorem c_clE {q : Int} (hA : g_A M a 0 n) (hn : n ≤ 1000000000) (hs : b_sts (g_i M a) n q D []) (h : Q 6 M) : g_Call (d + 1) 120 [.ref a, g_n q] M (g_qI Q) := by
  obtain ⟨-, -, h3, h4, h5⟩ := hs
  rw [show b_ser [] = [] from rfl, List.length_nil] at h4 h5
  refine c_classOf hA ⟨by omega, by omega⟩ ⟨by omega, by omega⟩ ?_
  rw [if_neg (by omega), if_pos (by omega)]
  rw [show q + ((0 : Nat) : Int) = q by omega] at h5
  rw [h5]
  exact h
theorem c_inside {f : Int → List Int → Int → List Int → Int} {es es2 : List b_E} {lv : Int} (hA : g_A M a 0 n) (hA2 : g_A M a2 0 n2) (hn : n ≤ 1000000000) (hn2 : n2 ≤ 1000000000) (hm9 : (b_ser es).length ≤ 199000)
    (hc : ∀ (e g : b_E) (q q2 : Int) (Q1 : Int → g_M → Prop), b_st (g_i M a) n q D e.1 e.2.1 e.2.2 → b_st (g_i M a2) n2 q2 D g.1 g.2.1 g.2.2 → e.2.2.length ≤ 199000 → Q1 (f e.1 e.2.2 g.1 g.2.2) M → g_Call (d + 2) 121 [.ref a, g_n q, .ref a2, g_n q2, g_n lv] M (g_qI Q1))
    (hlv : g_InR lv) (hnmA : b_nm (g_i M a) n p (p + 1 + nm.length)) (hnmB : b_nm (g_i M a2) n2 p2 (p2 + 1 + nm2.length)) (hk : g_i M a p = k) (hs : b_sts (g_i M a) n (p + 6 + nm.length) D es) (hs2 : b_sts (g_i M a2) n2 (p2 + 6 + nm2.length) D es2) (h : Q (v_cmpL f (k == 4) es es2) M) : g_Call (d + 3) 122 [.ref a, g_n p, .ref a2, g_n p2, g_n lv] M (g_qI Q) := by
  have hn0 := hA.len
  have hn20 := hA2.len
  have hp0 := hnmA.1
  have hp1 := hnmA.2.2.1
  have hp20 := hnmB.1
  have hp21 := hnmB.2.2.1
  have hl : ∀ (w : Int) (rows : Bool), w = (bif rows then 1 else 0) → ∀ (es es2 : List b_E) (q q2 : Int) (i : Nat), b_sts (g_i M a) n q D es → b_sts (g_i M a2) n2 q2 D es2 → i + es.length < 100000 → (b_ser es).length ≤ 199000 → Q (v_cmpL f rows es es2) M → g_Run (d + 2) 122 35 [(0, .ref a), (1, g_n p), (2, .ref a2), (3, g_n p2), (4, g_n lv), (5, g_n w), (6, g_n q), (7, g_n q2), (8, g_n i)] [] M (g_qI Q) := by
    intro w rows hw es
    have hwR : g_InR w := by
      rw [hw]
      cases rows <;> exact ⟨by decide, by decide⟩
    induction es with
    | nil =>
      intro es2 q q2 i h1 h2 hi hi9 hq
      obtain ⟨-, -, h13, h14, h15⟩ := id h1
      obtain ⟨-, -, h23, h24, h25⟩ := id h2
      cases es2 with
      | nil =>
        refine s_X7_compareInside_35 ⟨by omega, by omega⟩ ⟨by omega, by omega⟩ hlv hwR ⟨by omega, by omega⟩ ⟨by omega, by omega⟩ ⟨by omega, by omega⟩ fun _ => ⟨fun _ => c_clE hA (by omega) h1 fun _ _ _ => c_clE hA2 (by omega) h2 fun _ _ _ => c_kdE hA (by omega) h1 fun _ _ _ => ⟨fun _ => ?_, fun g => absurd rfl g⟩, fun g => absurd (by omega) g⟩
        exact s_X7_compareInside_76 ⟨by omega, by omega⟩ ⟨by omega, by omega⟩ hlv hwR ⟨by omega, by omega⟩ ⟨by omega, by omega⟩ ⟨by omega, by omega⟩ ⟨by decide, by decide⟩ ⟨by decide, by decide⟩ fun _ => c_kdE hA (by omega) h1 fun _ _ _ => c_kdE hA2 (by omega) h2 fun _ _ _ => ⟨fun _ => hq, fun g => absurd rfl g⟩
      | cons g gs =>
        obtain ⟨h3, h4⟩ := h2.cons
        have hk2 := b_vs_pos (b_gv_vs h3.2.2.1)
        have hc2 := b_cl_R g.1
        refine s_X7_compareInside_35 ⟨by omega, by omega⟩ ⟨by omega, by omega⟩ hlv hwR ⟨by omega, by omega⟩ ⟨by omega, by omega⟩ ⟨by omega, by omega⟩ fun _ => ⟨fun _ => c_clE hA (by omega) h1 fun _ _ _ => c_cl2 hA2 (by omega) h3 fun _ _ _ => c_kdE hA (by omega) h1 fun _ _ _ => ⟨fun _ => ?_, fun g => absurd rfl g⟩, fun g => absurd (by omega) g⟩
        exact s_X7_compareInside_76 ⟨by omega, by omega⟩ ⟨by omega, by omega⟩ hlv hwR ⟨by omega, by omega⟩ ⟨by omega, by omega⟩ ⟨by omega, by omega⟩ ⟨by decide, by decide⟩ ⟨by omega, by omega⟩ fun _ => c_kdE hA (by omega) h1 fun _ _ _ => c_kd2 hA2 (by omega) h3 fun _ _ _ => ⟨fun e => absurd e (by omega), fun _ => c_kdE hA (by omega) h1 fun _ _ _ => ⟨fun _ => hq, fun e => absurd rfl e⟩⟩
    | cons e es ih =>
      intro es2 q q2 i h1 h2 hi hi9 hq
      rw [List.length_cons] at hi
      rw [b_ser_len] at hi9
      obtain ⟨-, -, h13, h14, h15⟩ := id h1
      obtain ⟨-, -, h23, h24, h25⟩ := id h2
      obtain ⟨h5, h6⟩ := h1.cons
      have hk1 := b_vs_pos (b_gv_vs h5.2.2.1)
      have hc1 := b_cl_R e.1
      cases es2 with
      | nil =>
        refine s_X7_compareInside_35 ⟨by omega, by omega⟩ ⟨by omega, by omega⟩ hlv hwR ⟨by omega, by omega⟩ ⟨by omega, by omega⟩ ⟨by omega, by omega⟩ fun _ => ⟨fun _ => c_cl2 hA (by omega) h5 fun _ _ _ => c_clE hA2 (by omega) h2 fun _ _ _ => c_kd2 hA (by omega) h5 fun _ _ _ => ⟨fun g => absurd g (by omega), fun _ => c_kdE hA2 (by omega) h2 fun _ _ _ => ⟨fun _ => ?_, fun g => absurd rfl g⟩⟩, fun g => absurd (by omega) g⟩
        exact s_X7_compareInside_76 ⟨by omega, by omega⟩ ⟨by omega, by omega⟩ hlv hwR ⟨by omega, by omega⟩ ⟨by omega, by omega⟩ ⟨by omega, by omega⟩ ⟨by omega, by omega⟩ ⟨by decide, by decide⟩ fun _ => c_kd2 hA (by omega) h5 fun _ _ _ => c_kdE hA2 (by omega) h2 fun _ _ _ => ⟨fun e => absurd e (by omega), fun _ => c_kd2 hA (by omega) h5 fun _ _ _ => ⟨fun e => absurd e (by omega), fun _ => hq⟩⟩
      | cons g gs =>
        obtain ⟨h3, h4⟩ := h2.cons
        have hk2 := b_vs_pos (b_gv_vs h3.2.2.1)
        have hc2 := b_cl_R g.1
        obtain ⟨h51, h52, h53, h54, h55⟩ := id h5
        obtain ⟨h31, h32, h33, h34, h35⟩ := id h3
        have hle := b_el_len e.1 e.2.1 e.2.2
        have hlg := b_el_len g.1 g.2.1 g.2.2
        have hx : ∀ (v : Int), g_InR v → (v = 0 → Q (v_cmpL f rows es gs) M) → (¬ v = 0 → Q v M) → g_Run (d + 2) 122 188 [(0, .ref a), (1, g_n p), (2, .ref a2), (3, g_n p2), (4, g_n lv), (5, g_n w), (6, g_n q), (7, g_n q2), (8, g_n i), (9, g_n (b_cl e.1)), (10, g_n (b_cl g.1)), (11, g_n v)] [] M (g_qI Q) := by
          intro v hv hv0 hv1
          refine s_X7_compareInside_188 ⟨by omega, by omega⟩ ⟨by omega, by omega⟩ hlv hwR ⟨by omega, by omega⟩ ⟨by omega, by omega⟩ ⟨by omega, by omega⟩ ⟨by omega, by omega⟩ ⟨by omega, by omega⟩ hv fun _ => ⟨fun e0 => c_nx2 hA (by omega) h5 fun _ _ _ => c_nx2 hA2 (by omega) h3 fun _ _ _ => ⟨⟨by omega, by omega⟩, ?_⟩, fun e0 => hv1 e0⟩
          have h8 := ih gs _ _ (i + 1) h6 h4 (by omega) (by omega) (hv0 e0)
          rwa [show ((i + 1 : Nat) : Int) = (i : Int) + 1 by omega] at h8
        have hz : ∀ (v : Int), g_InR v → (v = 0 → Q (if f e.1 e.2.2 g.1 g.2.2 = 0 then v_cmpL f rows es gs else f e.1 e.2.2 g.1 g.2.2) M) → (¬ v = 0 → Q v M) → g_Run (d + 2) 122 168 [(0, .ref a), (1, g_n p), (2, .ref a2), (3, g_n p2), (4, g_n lv), (5, g_n w), (6, g_n q), (7, g_n q2), (8, g_n i), (9, g_n (b_cl e.1)), (10, g_n (b_cl g.1))] [g_n v] M (g_qI Q) := by
          intro v hv hv0 hv1
          refine s_X7_compareInside_168 ⟨by omega, by omega⟩ ⟨by omega, by omega⟩ hlv hwR ⟨by omega, by omega⟩ ⟨by omega, by omega⟩ ⟨by omega, by omega⟩ ⟨by omega, by omega⟩ ⟨by omega, by omega⟩ hv fun _ => ⟨fun e0 => hc e g q q2 _ h5 h3 (by omega) fun _ _ hr => hx _ hr (fun e1 => ?_) (fun e1 => ?_), fun e0 => hx v hv (fun e1 => absurd e1 e0) hv1⟩
          · have := hv0 e0
            rwa [if_pos e1] at this
          · have := hv0 e0
            rwa [if_neg e1] at this
        unfold v_cmpL at hq
        refine s_X7_compareInside_35 ⟨by omega, by omega⟩ ⟨by omega, by omega⟩ hlv hwR ⟨by omega, by omega⟩ ⟨by omega, by omega⟩ ⟨by omega, by omega⟩ fun _ => ⟨fun _ => c_cl2 hA (by omega) h5 fun _ _ _ => c_cl2 hA2 (by omega) h3 fun _ _ _ => c_kd2 hA (by omega) h5 fun _ _ _ => ⟨fun g => absurd g (by omega), fun _ => c_kd2 hA2 (by omega) h3 fun _ _ _ => ⟨fun g => absurd g (by omega), fun _ => ⟨fun ec => ?_, fun ec => ⟨fun e1 => ?_, fun e1 => ?_⟩⟩⟩⟩, fun g => absurd (by omega) g⟩
        · rw [if_neg (by omega), if_neg (by omega)] at hq
          cases rows with
          | false =>
            have hw0 : w = 0 := hw
            refine ⟨fun _ => ⟨⟨by omega, by omega⟩, c_va2 hA (by omega) h5 fun _ _ _ => ⟨⟨by omega, by omega⟩, ⟨by omega, by omega⟩, c_va2 hA2 (by omega) h3 fun _ _ _ => ⟨⟨by omega, by omega⟩, ?_⟩⟩⟩, fun e0 => absurd hw0 e0⟩
            rw [show q + 2 + (e.2.1.length : Int) - 1 = q + 1 + e.2.1.length by omega, show q2 + 2 + (g.2.1.length : Int) - 1 = q2 + 1 + g.2.1.length by omega]
            refine c_cmp hA hA2 (by omega) (by omega) (b_el_at h51).2.1 (b_el_at h31).2.1 (by omega) (by omega) (by omega) (by omega) fun _ _ hr => hz _ hr (fun e0 => ?_) (fun e0 => ?_)
            · rwa [cond_false, if_pos e0] at hq
            · rwa [cond_false, if_neg e0] at hq
          | true =>
            have hw0 : w = 1 := hw
            refine ⟨fun e0 => absurd e0 (by omega), fun _ => hz 0 g_R0 (fun _ => ?_) (fun e0 => absurd rfl e0)⟩
            rwa [cond_true, if_pos rfl] at hq
        · rwa [if_pos e1] at hq
        · rwa [if_neg (by omega), if_pos (by omega)] at hq
  have hm := b_ser_many es
  obtain ⟨-, -, h13, h14, h15⟩ := id hs
  refine m_X7_compareInside ⟨by omega, by omega⟩ ⟨by omega, by omega⟩ hlv fun _ => ⟨n, hA, ⟨by omega, by omega⟩, ?_⟩
  have hgo : ∀ (w : Int) (rows : Bool), w = (bif rows then 1 else 0) → Q (v_cmpL f rows es es2) M → g_Run (d + 2) 122 12 [(0, .ref a), (1, g_n p), (2, .ref a2), (3, g_n p2), (4, g_n lv)] [g_n w] M (g_qI Q) := by
    intro w rows hw hq
    have hwR : g_InR w := by
      rw [hw]
      cases rows <;> exact ⟨by decide, by decide⟩
    refine s_X7_compareInside_12 ⟨by omega, by omega⟩ ⟨by omega, by omega⟩ hlv hwR fun _ => c_va hA ⟨by omega, by omega⟩ hnmA fun _ _ _ => ⟨⟨by omega, by omega⟩, c_va hA2 ⟨by omega, by omega⟩ hnmB fun _ _ _ => ⟨⟨by omega, by omega⟩, ?_⟩⟩
    have h8 := hl w rows hw es es2 (p + 6 + nm.length) (p2 + 6 + nm2.length) 0 hs hs2 (by omega) hm9 hq
    rwa [show p + 1 + (nm.length : Int) + 1 + 4 = p + 6 + nm.length by omega, show p2 + 1 + (nm2.length : Int) + 1 + 4 = p2 + 6 + nm2.length by omega]
  rw [hk]
  refine ⟨fun e4 => hgo 1 true rfl ?_, fun e4 => hgo 0 false rfl ?_⟩
  · rwa [show (k == 4) = true by simpa using e4] at h
  · rwa [show (k == 4) = false by simpa using e4] at h
end V7
