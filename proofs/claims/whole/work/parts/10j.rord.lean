/-! the order of values: the reference, which tells its sign alone -/
def v_sg (r : Int) : Int := if r < 0 then -1 else if r = 0 then 0 else 1
/-- a sign's number: not a great one -/
def v_ok (r s : Int) : Prop := v_sg r = s ∧ -100000000 ≤ r ∧ r ≤ 100000000
theorem v_ok.zero {r s : Int} (h : v_ok r s) : r = 0 ↔ s = 0 := by
  obtain ⟨h, -, -⟩ := h
  unfold v_sg at h
  split at h
  · omega
  · split at h <;> omega
section V12
variable {d m b : Nat} {M : g_M} {Q : Int → g_M → Prop} {p p2 k k2 : Int} {nm nm2 vb vb2 : List Int} {D D2 : Nat}
theorem e_nm2 (hR : e_R M m b) (hs : b_st (g_i M b) 2706210 p D k nm vb) (h : Q (p + 1 + nm.length) M) : g_Call (d + 1) 232 [.ref m, g_n p] M (g_qI Q) := e_nameEnd hR hs.nm h
theorem e_vl2 (hR : e_R M m b) (hs : b_st (g_i M b) 2706210 p D k nm vb) (h : Q (p + 2 + nm.length) M) : g_Call (d + 2) 233 [.ref m, g_n p] M (g_qI Q) := e_value hR hs.nm (by rwa [show p + 1 + (nm.length : Int) + 1 = p + 2 + nm.length by omega])
theorem e_bh2 (hR : e_R M m b) (hs : b_st (g_i M b) 2706210 p D k nm vb) (h : Q (p + (b_el k nm vb).length) M) : g_Call (d + 4) 235 [.ref m, g_n p] M (g_qI Q) := e_behind hR hs.1 hs.2.1 (b_gv_vs hs.2.2.1) hs.2.2.2.1 hs.2.2.2.2 h
theorem e_cl2 (hR : e_R M m b) (hs : b_st (g_i M b) 2706210 p D k nm vb) (h : Q (b_cl k) M) : g_Call (d + 1) 267 [.ref m, g_n p] M (g_qI Q) := by
  obtain ⟨h1, h2, h3, h4⟩ := hs.val
  refine m_X12_classOf ⟨by omega, by omega⟩ fun _ => ⟨fun g => absurd g (by omega), fun _ => ⟨hR.1, b, hR.2.1, _, hR.2.2, ⟨by omega, by omega⟩, ?_⟩⟩
  rw [h4]
  unfold b_cl at h
  refine ⟨fun q => ?_, fun _ => ⟨fun q => ?_, fun _ => ⟨fun q => ?_, fun _ => ⟨fun q => ?_, fun _ => ⟨fun q => ?_, fun _ => ⟨fun q => ?_, fun _ => ?_⟩⟩⟩⟩⟩⟩
  all_goals first
    | (subst q; simpa using h)
    | (rw [if_neg (by omega), if_neg (by omega), if_neg (by omega), if_neg (by omega), if_neg (by omega)] at h; exact h)
theorem e_num {Q : Int64 → g_M → Prop} (hR : e_R M m b) (hs : b_st (g_i M b) 2706210 p D k nm vb) (hk : k = 16 ∨ k = 18) (h : Q (v_num k vb) M) : g_Call (d + 4) 243 [.ref m, g_n p] M (g_qL Q) := by
  obtain ⟨h1, h2, h3, h4⟩ := hs.val
  have hlen : (k = 16 ∧ vb.length = 4) ∨ (k = 18 ∧ vb.length = 8) := by
    rcases b_gv_vs hs.2.2.1 with g | g | ⟨g, -⟩ | ⟨g, -⟩ | ⟨g, -⟩ | ⟨g, -⟩ <;> omega
  have w0 : b_w4 (g_i M b) (p + 2 + nm.length) = b_w4 (b_fn vb) 0 := by
    have := b_fn_w4 h1 (i := 0) (by omega) (by omega)
    rwa [show p + 2 + (nm.length : Int) + 0 = p + 2 + nm.length by omega] at this
  unfold v_num at h
  refine m_X12_number ⟨by omega, by omega⟩ fun _ => ⟨hR.1, b, hR.2.1, _, hR.2.2, ⟨by omega, by omega⟩, ?_⟩
  rw [h4]
  refine ⟨fun g => e_vl2 hR hs fun _ _ _ => e_int4 hR (by omega) (by omega) fun _ _ _ => ?_, fun g => e_vl2 hR hs fun _ _ _ => m_X12_long8 ⟨by omega, by omega⟩ fun _ => ⟨hR.1, e_int4 hR (by omega) (by omega) fun _ _ _ => ⟨⟨by omega, by omega⟩, e_int4 hR (by omega) (by omega) fun _ _ _ => fun _ _ => ?_⟩⟩⟩
  · rw [if_pos g] at h
    rwa [w0]
  · rw [if_neg g] at h
    rwa [w0, b_fn_w4 h1 (by omega) (by omega)]
theorem e_cmpB {x y : List Int} (hR : e_R M m b) (hx : b_at (g_i M b) p x) (hy : b_at (g_i M b) p2 y) (h0 : 0 ≤ p) (h1 : p + x.length ≤ 2706210) (h2 : 0 ≤ p2) (h3 : p2 + y.length ≤ 2706210) (h : ∀ r, v_ok r (b_cmp x y) → Q r M) : g_Call (d + 2) 268 [.ref m, g_n p, g_n (p + x.length), g_n p2, g_n (p2 + y.length)] M (g_qI Q) := by
  have hend : ∀ (v5 : Int) (i : Nat), v5 = min (x.length : Int) y.length → (i = x.length ∨ i = y.length) → i ≤ x.length → i ≤ y.length → (∀ r, v_ok r (if (x.length : Int) < y.length then -1 else if (y.length : Int) < x.length then 1 else 0) → Q r M) → g_Run (d + 1) 268 25 [(0, .ref m), (1, g_n p), (2, g_n (p + x.length)), (3, g_n p2), (4, g_n (p2 + y.length)), (5, g_n v5), (6, g_n i)] [] M (g_qI Q) := by
    intro v5 i e5 hi hix hiy hq
    refine s_X12_compareBytes_25 ⟨by omega, by omega⟩ ⟨by omega, by omega⟩ ⟨by omega, by omega⟩ ⟨by omega, by omega⟩ ⟨by omega, by omega⟩ ⟨by omega, by omega⟩ fun _ => ⟨fun g => absurd g (by omega), fun _ => ⟨⟨by omega, by omega⟩, ⟨by omega, by omega⟩, ⟨by omega, by omega⟩, hq _ ⟨?_, by omega, by omega⟩⟩⟩
    unfold v_sg
    by_cases g1 : (x.length : Int) < y.length
    · rw [if_pos (by omega), if_pos g1]
    · by_cases g2 : (y.length : Int) < x.length
      · rw [if_neg (by omega), if_neg (by omega), if_neg g1, if_pos g2]
      · rw [if_neg (by omega), if_pos (by omega), if_neg g1, if_neg g2]
  have hl : ∀ (v5 : Int), v5 = min (x.length : Int) y.length → ∀ (xs ys : List Int) (i : Nat), xs.length + i = x.length → ys.length + i = y.length → b_at (g_i M b) (p + i) xs → b_at (g_i M b) (p2 + i) ys → (∀ r, v_ok r (b_cmp xs ys) → Q r M) → g_Run (d + 1) 268 25 [(0, .ref m), (1, g_n p), (2, g_n (p + x.length)), (3, g_n p2), (4, g_n (p2 + y.length)), (5, g_n v5), (6, g_n i)] [] M (g_qI Q) := by
    intro v5 e5 xs
    induction xs with
    | nil =>
      intro ys i e1 e2 b1 b2 hq
      rw [List.length_nil] at e1
      refine hend v5 i e5 (Or.inl (by omega)) (by omega) (by omega) ?_
      cases ys with
      | nil =>
        rw [List.length_nil] at e2
        rw [if_neg (by omega), if_neg (by omega)]
        exact hq
      | cons w ys =>
        rw [List.length_cons] at e2
        rw [if_pos (by omega)]
        exact hq
    | cons v xs ih =>
      intro ys i e1 e2 b1 b2 hq
      rw [List.length_cons] at e1
      cases ys with
      | nil =>
        rw [List.length_nil] at e2
        refine hend v5 i e5 (Or.inr (by omega)) (by omega) (by omega) ?_
        rw [if_neg (by omega), if_pos (by omega)]
        exact hq
      | cons w ys =>
        rw [List.length_cons] at e2
        obtain ⟨c1, c2⟩ := b_cons.mp b1
        obtain ⟨c3, c4⟩ := b_cons.mp b2
        refine s_X12_compareBytes_25 ⟨by omega, by omega⟩ ⟨by omega, by omega⟩ ⟨by omega, by omega⟩ ⟨by omega, by omega⟩ ⟨by omega, by omega⟩ ⟨by omega, by omega⟩ fun hok => ⟨fun _ => ⟨hR.1, b, hR.2.1, ⟨by omega, by omega⟩, _, hR.2.2, ⟨by omega, by omega⟩, b, hR.2.1, ⟨by omega, by omega⟩, _, hR.2.2, ⟨by omega, by omega⟩, ?_⟩, fun g => absurd (by omega) g⟩
        have k1 := hok.byte hR.2.2 (p + i)
        have k2 := hok.byte hR.2.2 (p2 + i)
        rw [c1] at k1 ⊢
        rw [c3] at k2 ⊢
        unfold b_cmp at hq
        refine ⟨fun g => ⟨⟨by omega, by omega⟩, ?_⟩, fun g => ⟨⟨by omega, by omega⟩, e_at hR (by omega) (by omega) fun _ _ _ => ⟨⟨by omega, by omega⟩, e_at hR (by omega) (by omega) fun _ _ _ => ?_⟩⟩⟩
        · subst g
          rw [if_neg (by omega), if_neg (by omega)] at hq
          have h8 := ih ys (i + 1) (by omega) (by omega) (by rwa [show p + ((i + 1 : Nat) : Int) = p + i + 1 by omega]) (by rwa [show p2 + ((i + 1 : Nat) : Int) = p2 + i + 1 by omega]) hq
          rwa [show ((i + 1 : Nat) : Int) = (i : Int) + 1 by omega] at h8
        · rw [c1, c3, g_and255 k1.1 k1.2, g_and255 k2.1 k2.2]
          refine ⟨⟨by omega, by omega⟩, hq _ ⟨?_, by omega, by omega⟩⟩
          unfold v_sg
          by_cases g1 : v % 256 < w % 256
          · rw [if_pos (by omega), if_pos g1]
          · rw [if_neg (by omega), if_neg (by omega), if_neg g1, if_pos (by omega)]
  refine m_X12_compareBytes ⟨by omega, by omega⟩ ⟨by omega, by omega⟩ ⟨by omega, by omega⟩ ⟨by omega, by omega⟩ fun _ => ⟨⟨by omega, by omega⟩, ⟨by omega, by omega⟩, fun g => ⟨⟨by omega, by omega⟩, hl _ (by omega) x y 0 (by omega) (by omega) (by rwa [show p + ((0 : Nat) : Int) = p by omega]) (by rwa [show p2 + ((0 : Nat) : Int) = p2 by omega]) h⟩, fun g => ⟨⟨by omega, by omega⟩, hl _ (by omega) x y 0 (by omega) (by omega) (by rwa [show p + ((0 : Nat) : Int) = p by omega]) (by rwa [show p2 + ((0 : Nat) : Int) = p2 by omega]) h⟩⟩
/-- the elements that stand from q on are the last ones of the document at c -/
def e_tl (B : Int → Int) (c q : Int) (D : Nat) (es0 es : List b_E) : Prop := b_at B c (b_doc es0) ∧ 0 ≤ c ∧ c + (b_doc es0).length ≤ 2706210 ∧ b_sts B 2706210 q D es ∧ q + (b_ser es).length = c + 4 + (b_ser es0).length
theorem e_tl.cons {B : Int → Int} {c q : Int} {es0 : List b_E} {e : b_E} {es : List b_E} (h : e_tl B c q D es0 (e :: es)) : b_st B 2706210 q D e.1 e.2.1 e.2.2 ∧ e_tl B c (q + (b_el e.1 e.2.1 e.2.2).length) D es0 es := by
  obtain ⟨h1, h2, h3, h4, h5⟩ := h
  obtain ⟨h6, h7⟩ := h4.cons
  rw [b_ser_len] at h5
  exact ⟨h6, h1, h2, h3, h7, by omega⟩
theorem e_lastE {c q : Int} {es0 : List b_E} (hR : e_R M m b) (h : e_tl (g_i M b) c q D es0 []) (hq : Q q M) : g_Call (d + 3) 238 [.ref m, g_n c] M (g_qI Q) := by
  obtain ⟨h1, h2, h3, h4, h5⟩ := h
  rw [show b_ser [] = [] from rfl, List.length_nil] at h5
  exact e_last hR h1 h2 h3 (by rwa [show c + 4 + ((b_ser es0).length : Int) = q by omega])
theorem e_lastC {c q : Int} {es0 : List b_E} {e : b_E} {es : List b_E} (hR : e_R M m b) (h : e_tl (g_i M b) c q D es0 (e :: es)) (hq : ∀ r, q < r → g_InR r → Q r M) : g_Call (d + 3) 238 [.ref m, g_n c] M (g_qI Q) := by
  obtain ⟨h1, h2, h3, h4, h5⟩ := h
  have h6 := b_el_len e.1 e.2.1 e.2.2
  rw [b_ser_len] at h5
  rw [b_doc_len] at h3
  exact e_last hR h1 h2 (by rw [b_doc_len]; exact h3) (hq _ (by omega) ⟨by omega, by omega⟩)
theorem e_tl.start {c : Int} {B : Int → Int} {es : List b_E} (h : b_at B c (b_doc es)) (h2 : ∀ e ∈ es, b_nz e.2.1 ∧ b_gv D e.1 e.2.2) (h0 : 0 ≤ c) (h1 : c + (b_doc es).length ≤ 2706210) : e_tl B c (c + 4) D es es := by
  obtain ⟨-, s1, s2⟩ := b_doc_at h
  have h3 := h1
  rw [b_doc_len] at h3
  exact ⟨h, h0, h1, ⟨s1, h2, by omega, by omega, s2⟩, rfl⟩
end V12
