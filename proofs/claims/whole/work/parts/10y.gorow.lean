/-! leaves: the reference goes any path -/
section GOE2
variable {m b l : Nat}
theorem L_pair (z : Int × b_E) : z = (z.1, z.2) := rfl
theorem e_LF.R {M M1 : g_M} {vs : List Int} {k : Int} (hR : e_R M m b) (hL : e_LF M m b l k) (h : M1 = e_als m l M k vs) : e_R M1 m b ∧ e_LF M1 m b l (k + vs.length) ∧ g_i M1 b = g_i M b := by
  subst h
  exact e_als_R vs hR hL
theorem e_goRow {d D : Nat} {M : g_M} {Q : g_M → Prop} {k c p to : Int} {es : List b_E} {x : List Int} (hR : e_R M m b) (hL : e_LF M m b l k) (h0 : 0 ≤ k) (hes : e_tl (g_i M b) c (c + 4) D es es) (hnm : ∀ (i : Nat) (e : b_E), es[i]? = some e → e.2.1 = b_dg i) (hm : es.length ≤ 10000) (hx : b_at (g_i M b) p x) (hto : p + x.length = to) (hp : 0 ≤ p) (hp1 : to < 2706200)
    (A : List (List Int) → List (Option (Int × b_E))) (hA : ∀ r, p_sp x = p_hd x :: r → A r = (match L_find (p_hd x) (L_at (c + 4) es) with
      | none => []
      | some z => L_go D z.1 z.2 r))
    (hk : ∀ r, p_sp x = p_hd x :: r → k + (A r ++ (L_at (c + 4) es).flatMap (fun z => if z.2.1 = 3 then L_go D z.1 z.2 (p_sp x) else [])).length ≤ 80000)
    (hgo : ∀ (M1 : g_M) (k1 : Int) (Q1 : g_M → Prop) (z : Int × b_E) (q : Int) (r : List (List Int)), e_R M1 m b → e_LF M1 m b l k1 → g_i M1 b = g_i M b → 0 ≤ k1 → b_st (g_i M b) 2706210 z.1 D z.2.1 z.2.2.1 z.2.2.2 → e_rs (g_i M b) q to r → 0 ≤ q → q ≤ to + 1 → k1 + (L_go D z.1 z.2 r).length ≤ 80000 → Q1 (e_als m l M1 k1 ((L_go D z.1 z.2 r).map L_opt)) → g_Call (d + 6) 278 [.ref m, g_n z.1, g_n q, g_n to] M1 (g_qV Q1))
    (hgd : ∀ (M1 : g_M) (k1 : Int) (Q1 : g_M → Prop) (z : Int × b_E), e_R M1 m b → e_LF M1 m b l k1 → g_i M1 b = g_i M b → 0 ≤ k1 → b_st (g_i M b) 2706210 z.1 D z.2.1 z.2.2.1 z.2.2.2 → z.2.1 = 3 → k1 + (L_go D z.1 z.2 (p_sp x)).length ≤ 80000 → Q1 (e_als m l M1 k1 ((L_go D z.1 z.2 (p_sp x)).map L_opt)) → g_Call (d + 6) 279 [.ref m, g_n (z.1 + 2 + z.2.2.1.length), g_n p, g_n to] M1 (g_qV Q1))
    (h : ∀ r, p_sp x = p_hd x :: r → Q (e_als m l M k ((A r ++ (L_at (c + 4) es).flatMap (fun z => if z.2.1 = 3 then L_go D z.1 z.2 (p_sp x) else [])).map L_opt))) : g_Call (d + 7) 280 [.ref m, g_n c, g_n p, g_n to] M (g_qV Q) := by
  obtain ⟨a1, a2, r, a3, a4⟩ := e_rs.hd hx
  have z1 := hes.st
  have hk := hk r a3
  have h := h r a3
  have hA := hA r a3
  generalize A r = Ar at hk h hA
  have hkL : (Ar ++ (L_at (c + 4) es).flatMap (fun z => if z.2.1 = 3 then L_go D z.1 z.2 (p_sp x) else [])).length = Ar.length + ((L_at (c + 4) es).flatMap (fun z => if z.2.1 = 3 then L_go D z.1 z.2 (p_sp x) else [])).length := List.length_append
  rw [hkL] at hk
  -- the items one by one
  have hloop : ∀ (fs : List b_E) (q k1 v4 v5 v6 : Int) (M1 : g_M), g_InR v4 → g_InR v5 → g_InR v6 → e_R M1 m b → e_LF M1 m b l k1 → g_i M1 b = g_i M b → 0 ≤ k1 → e_tl (g_i M b) c q D es fs → k1 + ((L_at q fs).flatMap (fun z => if z.2.1 = 3 then L_go D z.1 z.2 (p_sp x) else [])).length ≤ 80000 → Q (e_als m l M1 k1 (((L_at q fs).flatMap (fun z => if z.2.1 = 3 then L_go D z.1 z.2 (p_sp x) else [])).map L_opt)) → g_Run (d + 6) 280 58 [(0, .ref m), (1, g_n c), (2, g_n p), (3, g_n to), (4, g_n v4), (5, g_n v5), (6, g_n v6), (7, g_n q)] [] M1 (g_qV Q) := by
    intro fs
    induction fs with
    | nil =>
      intro q k1 v4 v5 v6 M1 r4 r5 r6 b1 b2 b3 b4 ht hk1 hq
      have y1 := ht.st
      rw [← b3] at ht
      exact s_X12_goRow_58 ⟨by omega, by omega⟩ ⟨by omega, by omega⟩ ⟨by omega, by omega⟩ r4 r5 r6 ⟨by omega, by omega⟩ fun _ => ⟨b1.1, e_lastE b1 ht fun _ _ _ => ⟨fun g => absurd g (by omega), fun _ => hq⟩⟩
    | cons e fs ih =>
      intro q k1 v4 v5 v6 M1 r4 r5 r6 b1 b2 b3 b4 ht hk1 hq
      have y1 := ht.st
      obtain ⟨h5, h6⟩ := ht.cons
      have y2 := h6.st
      have hlen := b_el_len e.1 e.2.1 e.2.2
      have ht1 := ht
      rw [← b3] at ht1
      have h51 := h5
      rw [← b3] at h51
      obtain ⟨w1, w2, w3, w4⟩ := h51.val
      have hfm : (L_at q (e :: fs)).flatMap (fun z => if z.2.1 = 3 then L_go D z.1 z.2 (p_sp x) else []) = (if e.1 = 3 then L_go D q e (p_sp x) else []) ++ (L_at (q + (b_el e.1 e.2.1 e.2.2).length) fs).flatMap (fun z => if z.2.1 = 3 then L_go D z.1 z.2 (p_sp x) else []) := rfl
      rw [hfm] at hk1 hq
      rw [List.length_append] at hk1
      refine s_X12_goRow_58 ⟨by omega, by omega⟩ ⟨by omega, by omega⟩ ⟨by omega, by omega⟩ r4 r5 r6 ⟨by omega, by omega⟩ fun _ => ⟨b1.1, e_lastC b1 ht1 fun r9 hr9 _ _ _ _ => ⟨fun _ => ⟨b, b1.2.1, _, b1.2.2, ⟨by omega, by omega⟩, ?_⟩, fun g => absurd hr9 g⟩⟩
      rw [w4]
      refine ⟨fun g3 => e_vl2 b1 h51 fun _ _ _ => ?_, fun g3 => e_bh2 b1 h51 fun _ _ _ => ?_⟩
      · rw [if_pos g3] at hk1 hq
        rw [List.map_append, e_als_app] at hq
        refine hgd M1 k1 _ (q, e) b1 b2 b3 b4 h5 g3 (by simp only; omega) fun _ _ => ?_
        obtain ⟨c1, c2, c3⟩ := e_als_R ((L_go D q e (p_sp x)).map L_opt) b1 b2
        have h52 := h5
        rw [← b3, ← c3] at h52
        refine e_bh2 c1 h52 fun _ _ _ => ?_
        refine ih _ (k1 + ((L_go D q e (p_sp x)).map L_opt).length) v4 v5 v6 _ r4 r5 r6 c1 c2 (c3.trans b3) (by omega) h6 ?_ hq
        rw [List.length_map]
        omega
      · rw [if_neg g3] at hk1 hq
        rw [List.nil_append] at hq
        exact ih _ k1 v4 v5 v6 M1 r4 r5 r6 b1 b2 b3 b4 h6 (by rw [List.length_nil] at hk1; omega) hq
  rw [List.map_append, e_als_app] at h
  obtain ⟨hf1, hf2⟩ := L_find_row (s := p_hd x) es (c + 4) 0 (fun i e he => by rw [Nat.zero_add]; exact hnm i e he) (by omega)
  -- what the step meets
  have h33 : ∀ (v5 : Int), g_InR v5 → ∀ w0, w0 = L_opt (L_find (p_hd x) (L_at (c + 4) es)) → g_Run (d + 6) 280 33 [(0, .ref m), (1, g_n c), (2, g_n p), (3, g_n to), (4, g_n (p + (p_hd x).length)), (5, g_n v5)] [g_n w0] M (g_qV Q) := by
    intro v5 hv5 w0 hw0
    rcases hf : L_find (p_hd x) (L_at (c + 4) es) with _ | z
    · rw [hf] at hA hw0
      have hw : w0 = -1 := hw0
      have hA : Ar = [] := hA
      subst hA
      subst hw
      refine s_X12_goRow_33 ⟨by omega, by omega⟩ ⟨by omega, by omega⟩ ⟨by omega, by omega⟩ ⟨by omega, by omega⟩ hv5 ⟨by decide, by decide⟩ fun _ => ⟨fun _ => e_first (by omega) (by omega) fun _ _ _ => ?_, fun g => absurd rfl g⟩
      refine hloop es (c + 4) k _ _ _ M ⟨by omega, by omega⟩ hv5 ⟨by decide, by decide⟩ hR hL rfl h0 hes (by rw [List.length_nil] at hk; omega) ?_
      have h9 : Q (e_als m l M (k + ((0 : Nat) : Int)) _) := h
      rwa [show k + ((0 : Nat) : Int) = k by omega] at h9
    · rw [hf] at hA hw0
      have hw : w0 = z.1 := hw0
      have hA : Ar = L_go D z.1 z.2 r := hA
      subst hA
      subst hw
      have hz := (L_at_st hes.2.2.2.1 z (L_find_mem hf).1).1
      have hz0 := hz.2.2.2.1
      have hz9 := hz.2.2.2.2
      refine s_X12_goRow_33 ⟨by omega, by omega⟩ ⟨by omega, by omega⟩ ⟨by omega, by omega⟩ ⟨by omega, by omega⟩ hv5 ⟨by omega, by omega⟩ fun _ => ⟨fun g => absurd g (by omega), fun _ => ⟨⟨by omega, by omega⟩, hR.1, ?_⟩⟩
      rw [hto] at a2 a4
      refine hgo M k _ z _ r hR hL rfl h0 hz a4 (by omega) (by omega) (by omega) fun _ _ => ?_
      obtain ⟨c1, c2, c3⟩ := e_als_R ((L_go D z.1 z.2 r).map L_opt) hR hL
      refine e_first (by omega) (by omega) fun _ _ _ => ?_
      refine hloop es (c + 4) _ _ _ _ _ ⟨by omega, by omega⟩ hv5 ⟨by omega, by omega⟩ c1 c2 c3 (by omega) hes ?_ h
      rw [List.length_map]
      omega
  subst hto
  refine m_X12_goRow ⟨by omega, by omega⟩ ⟨by omega, by omega⟩ ⟨by omega, by omega⟩ fun _ => ⟨hR.1, e_stepEnd hR hx hp (by omega) fun _ _ _ => e_stepNo hR a1 hp (by omega) (fun i hi e _ _ hiR => ⟨fun g => absurd g (by omega), fun _ => e_itemE hR hes (by omega) hiR fun _ _ _ => h33 _ hiR _ ?_⟩) (fun e v hv _ _ hvR => ⟨fun g => h33 _ hvR _ ?_, fun g => e_itemE hR hes (by omega) hvR fun _ _ _ => h33 _ hvR _ ?_⟩)⟩
  · rw [hf1 i hi (by omega) e]
    rfl
  · rw [hf2 e]
    rfl
  · rw [hf2 e]
    rw [List.getElem?_eq_none (by rw [L_at_len]; omega)]
end GOE2
