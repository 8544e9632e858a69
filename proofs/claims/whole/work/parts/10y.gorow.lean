/-! leaves: the reference goes any path -/
section GOE2
variable {m b l : Nat}
theorem L_pair (z : Int × b_E) : z = (z.1, z.2) := rfl
theorem e_LF.R {M M1 : g_M} {vs : List Int} {k : Int} (hR : e_R M m b) (hL : e_LF M m b l k) (h : M1 = e_als m l M k vs) : e_R M1 m b ∧ e_LF M1 m b l (k + vs.length) ∧ g_i M1 b = g_i M b := by
  subst h
  exact e_als_R vs hR hL
theorem e_goRow {d D : Nat} {M : g_M} {Q : g_M → Prop} {k c p to : Int} {es : List b_E} {x : List Int} (hR : e_R M m b) (hL : e_LF M m b l k) (h0 : 0 ≤ k) (hes : e_tl (g_i M b) c (c + 4) D es es) (hnm : ∀ (i : Nat) (e : b_E), es[i]? = some e → e.2.1 = b_dg i) (hm : es.length ≤ 10000) (hx : b_at (g_i M b) p x) (hto : p + x.length = to) (hp : 0 ≤ p) (hp1 : to < 2706200)
    (A : List (List Int) → List (Option (Int × b_E))) (hA : ∀ r, p_sp x = p_hd x :: r → A r = (match L_find (p_hd x) (L_at (c + 4) es) with
      | none => []
      | some z => L_go D z.1 z.2 r))
    (hk : ∀ r, p_sp x = p_hd x :: r → k + (A r ++ (L_at (c + 4) es).flatMap (fun z => if z.2.1 = 3 then L_go D z.1 z.2 (p_sp x) else [])).length ≤ 80000)
    (hgo : ∀ (M1 : g_M) (k1 : Int) (Q1 : g_M → Prop) (z : Int × b_E) (q : Int) (r : List (List Int)), z ∈ L_at (c + 4) es → e_R M1 m b → e_LF M1 m b l k1 → g_i M1 b = g_i M b → 0 ≤ k1 → b_st (g_i M b) 2706210 z.1 D z.2.1 z.2.2.1 z.2.2.2 → e_rs (g_i M b) q to r → 0 ≤ q → q ≤ to + 1 → k1 + (L_go D z.1 z.2 r).length ≤ 80000 → Q1 (e_als m l M1 k1 ((L_go D z.1 z.2 r).map L_opt)) → g_Call (d + 6) 278 [.ref m, g_n z.1, g_n q, g_n to] M1 (g_qV Q1))
    (hgd : ∀ (M1 : g_M) (k1 : Int) (Q1 : g_M → Prop) (z : Int × b_E), z ∈ L_at (c + 4) es → e_R M1 m b → e_LF M1 m b l k1 → g_i M1 b = g_i M b → 0 ≤ k1 → b_st (g_i M b) 2706210 z.1 D z.2.1 z.2.2.1 z.2.2.2 → z.2.1 = 3 → k1 + (L_go D z.1 z.2 (p_sp x)).length ≤ 80000 → Q1 (e_als m l M1 k1 ((L_go D z.1 z.2 (p_sp x)).map L_opt)) → g_Call (d + 6) 279 [.ref m, g_n (z.1 + 2 + z.2.2.1.length), g_n p, g_n to] M1 (g_qV Q1))
    (h : ∀ r, p_sp x = p_hd x :: r → Q (e_als m l M k ((A r ++ (L_at (c + 4) es).flatMap (fun z => if z.2.1 = 3 then L_go D z.1 z.2 (p_sp x) else [])).map L_opt))) : g_Call (d + 7) 280 [.ref m, g_n c, g_n p, g_n to] M (g_qV Q) := by
  obtain ⟨a1, a2, r, a3, a4⟩ := e_rs.hd hx
  have z1 := hes.st
  have hk := hk r a3
  have h := h r a3
  have hA := hA r a3
  generalize A r = Ar at hk h hA
  have hkL : (Ar ++ (L_at (c + 4) es).flatMap (fun z => if z.2.1 = 3 then L_go D z.1 z.2 (p_sp x) else [])).length = Ar.length + ((L_at (c + 4) es).flatMap (fun z => if z.2.1 = 3 then L_go D z.1 z.2 (p_sp x) else [])).length := List.length_append
  rw [hkL] at hk
  -- the items one by one
  have hloop : ∀ (fs : List b_E) (q k1 v4 v5 v6 : Int) (M1 : g_M), (∀ z ∈ L_at q fs, z ∈ L_at (c + 4) es) → g_InR v4 → g_InR v5 → g_InR v6 → e_R M1 m b → e_LF M1 m b l k1 → g_i M1 b = g_i M b → 0 ≤ k1 → e_tl (g_i M b) c q D es fs → k1 + ((L_at q fs).flatMap (fun z => if z.2.1 = 3 then L_go D z.1 z.2 (p_sp x) else [])).length ≤ 80000 → Q (e_als m l M1 k1 (((L_at q fs).flatMap (fun z => if z.2.1 = 3 then L_go D z.1 z.2 (p_sp x) else [])).map L_opt)) → g_Run (d + 6) 280 58 [(0, .ref m), (1, g_n c), (2, g_n p), (3, g_n to), (4, g_n v4), (5, g_n v5), (6, g_n v6), (7, g_n q)] [] M1 (g_qV Q) := by
    intro fs
    induction fs with
    | nil =>
      intro q k1 v4 v5 v6 M1 hmem r4 r5 r6 b1 b2 b3 b4 ht hk1 hq
      have y1 := ht.st
      rw [← b3] at ht
      exact s_X12_goRow_58 ⟨by omega, by omega⟩ ⟨by omega, by omega⟩ ⟨by omega, by omega⟩ r4 r5 r6 ⟨by omega, by omega⟩ fun _ => ⟨b1.1, e_lastE b1 ht fun _ _ _ => ⟨fun g => absurd g (by omega), fun _ => hq⟩⟩
    | cons e fs ih =>
      intro q k1 v4 v5 v6 M1 hmem r4 r5 r6 b1 b2 b3 b4 ht hk1 hq
      have y1 := ht.st
      obtain ⟨h5, h6⟩ := ht.cons
      have y2 := h6.st
      have hlen := b_el_len e.1 e.2.1 e.2.2
      have ht1 := ht
      rw [← b3] at ht1
      have h51 := h5
      rw [← b3] at h51
      obtain ⟨w1, w2, w3, w4⟩ := h51.val
      have hfm : (L_at q (e :: fs)).flatMap (fun z => if z.2.1 = 3 then L_go D z.1 z.2 (p_sp x) else []) = (if e.1 = 3 then L_go D q e (p_sp x) else []) ++ (L_at (q + (b_el e.1 e.2.1 e.2.2).length) fs).flatMap (fun z => if z.2.1 = 3 then L_go D z.1 z.2 (p_sp x) else []) := rfl
      rw [hfm] at hk1 hq
      rw [List.length_append] at hk1
      refine s_X12_goRow_58 ⟨by omega, by omega⟩ ⟨by omega, by omega⟩ ⟨by omega, by omega⟩ r4 r5 r6 ⟨by omega, by omega⟩ fun _ => ⟨b1.1, e_lastC b1 ht1 fun r9 hr9 _ _ _ _ => ⟨fun _ => ⟨b, b1.2.1, _, b1.2.2, ⟨by omega, by omega⟩, ?_⟩, fun g => absurd hr9 g⟩⟩
      rw [w4]
      refine ⟨fun g3 => e_vl2 b1 h51 fun _ _ _ => ?_, fun g3 => e_bh2 b1 h51 fun _ _ _ => ?_⟩
      · rw [if_pos g3] at hk1 hq
        rw [List.map_append, e_als_app] at hq
        refine hgd M1 k1 _ (q, e) (hmem _ List.mem_cons_self) b1 b2 b3 b4 h5 g3 (by simp only; omega) fun _ _ => ?_
        obtain ⟨c1, c2, c3⟩ := e_als_R ((L_go D q e (p_sp x)).map L_opt) b1 b2
        have h52 := h5
        rw [← b3, ← c3] at h52
        refine e_bh2 c1 h52 fun _ _ _ => ?_
        refine ih _ (k1 + ((L_go D q e (p_sp x)).map L_opt).length) v4 v5 v6 _ (fun z hz => hmem z (List.mem_cons_of_mem _ hz)) r4 r5 r6 c1 c2 (c3.trans b3) (by omega) h6 ?_ hq
        rw [List.length_map]
        omega
      · rw [if_neg g3] at hk1 hq
        rw [List.nil_append] at hq
        exact ih _ k1 v4 v5 v6 M1 (fun z hz => hmem z (List.mem_cons_of_mem _ hz)) r4 r5 r6 b1 b2 b3 b4 h6 (by rw [List.length_nil] at hk1; omega) hq
  rw [List.map_append, e_als_app] at h
  obtain ⟨hf1, hf2⟩ := L_find_row (s := p_hd x) es (c + 4) 0 (fun i e he => by rw [Nat.zero_add]; exact hnm i e he) (by omega)
  -- what the step meets
  have h33 : ∀ (v5 : Int), g_InR v5 → ∀ w0, w0 = L_opt (L_find (p_hd x) (L_at (c + 4) es)) → g_Run (d + 6) 280 33 [(0, .ref m), (1, g_n c), (2, g_n p), (3, g_n to), (4, g_n (p + (p_hd x).length)), (5, g_n v5)] [g_n w0] M (g_qV Q) := by
    intro v5 hv5 w0 hw0
    rcases hf : L_find (p_hd x) (L_at (c + 4) es) with _ | z
    · rw [hf] at hA hw0
      have hw : w0 = -1 := hw0
      have hA : Ar = [] := hA
      subst hA
      subst hw
      refine s_X12_goRow_33 ⟨by omega, by omega⟩ ⟨by omega, by omega⟩ ⟨by omega, by omega⟩ ⟨by omega, by omega⟩ hv5 ⟨by decide, by decide⟩ fun _ => ⟨fun _ => e_first (by omega) (by omega) fun _ _ _ => ?_, fun g => absurd rfl g⟩
      refine hloop es (c + 4) k _ _ _ M (fun _ hz => hz) ⟨by omega, by omega⟩ hv5 ⟨by decide, by decide⟩ hR hL rfl h0 hes (by rw [List.length_nil] at hk; omega) ?_
      have h9 : Q (e_als m l M (k + ((0 : Nat) : Int)) _) := h
      rwa [show k + ((0 : Nat) : Int) = k by omega] at h9
    · rw [hf] at hA hw0
      have hw : w0 = z.1 := hw0
      have hA : Ar = L_go D z.1 z.2 r := hA
      subst hA
      subst hw
      have hz := (L_at_st hes.2.2.2.1 z (L_find_mem hf).1).1
      have hz0 := hz.2.2.2.1
      have hz9 := hz.2.2.2.2
      refine s_X12_goRow_33 ⟨by omega, by omega⟩ ⟨by omega, by omega⟩ ⟨by omega, by omega⟩ ⟨by omega, by omega⟩ hv5 ⟨by omega, by omega⟩ fun _ => ⟨fun g => absurd g (by omega), fun _ => ⟨⟨by omega, by omega⟩, hR.1, ?_⟩⟩
      rw [hto] at a2 a4
      refine hgo M k _ z _ r (L_find_mem hf).1 hR hL rfl h0 hz a4 (by omega) (by omega) (by omega) fun _ _ => ?_
      obtain ⟨c1, c2, c3⟩ := e_als_R ((L_go D z.1 z.2 r).map L_opt) hR hL
      refine e_first (by omega) (by omega) fun _ _ _ => ?_
      refine hloop es (c + 4) _ _ _ _ _ (fun _ hz => hz) ⟨by omega, by omega⟩ hv5 ⟨by omega, by omega⟩ c1 c2 c3 (by omega) hes ?_ h
      rw [List.length_map]
      omega
  subst hto
  refine m_X12_goRow ⟨by omega, by omega⟩ ⟨by omega, by omega⟩ ⟨by omega, by omega⟩ fun _ => ⟨hR.1, e_stepEnd hR hx hp (by omega) fun _ _ _ => e_stepNo hR a1 hp (by omega) (fun i hi e _ _ hiR => ⟨fun g => absurd g (by omega), fun _ => e_itemE hR hes (by omega) hiR fun _ _ _ => h33 _ hiR _ ?_⟩) (fun e v hv _ _ hvR => ⟨fun g => h33 _ hvR _ ?_, fun g => e_itemE hR hes (by omega) hvR fun _ _ _ => h33 _ hvR _ ?_⟩)⟩
  · rw [hf1 i hi (by omega) e]
    rfl
  · rw [hf2 e]
    rfl
  · rw [hf2 e]
    rw [List.getElem?_eq_none (by rw [L_at_len]; omega)]
theorem L_at_vb {es : List b_E} {q : Int} {z : Int × b_E} (h : z ∈ L_at q es) : z.2.2.2.length ≤ (b_ser es).length := by
  induction es generalizing q with
  | nil => exact absurd h (by simp [L_at])
  | cons e es ih =>
    have hl := b_el_len e.1 e.2.1 e.2.2
    rw [b_ser_len]
    rcases List.mem_cons.mp h with rfl | h
    · simp only
      omega
    · have := ih h
      omega
theorem e_go : ∀ (D : Nat) {d : Nat} {M : g_M} {Q : g_M → Prop} {k p to : Int} {z : Int × b_E} {st : List (List Int)}, e_R M m b → e_LF M m b l k → 0 ≤ k → b_st (g_i M b) 2706210 z.1 D z.2.1 z.2.2.1 z.2.2.2 → z.2.2.2.length ≤ 19000 → e_rs (g_i M b) p to st → 0 ≤ p → p ≤ to + 1 → to < 2706200 → k + (L_go D z.1 z.2 st).length ≤ 80000 → Q (e_als m l M k ((L_go D z.1 z.2 st).map L_opt)) → g_Call (d + 2 * D + 6) 278 [.ref m, g_n z.1, g_n p, g_n to] M (g_qV Q) := by
  intro D
  induction D using Nat.strongRecOn with
  | ind D ih =>
    intro d M Q k p to z st hR hL h0 hs hvb hrs hp hpt hto hk h
    obtain ⟨v1, v2, v3, v4⟩ := hs.val
    have hs9 := hs.2.2.2.2
    have hel := b_el_len z.2.1 z.2.2.1 z.2.2.2
    rcases hrs with ⟨rfl, rfl⟩ | ⟨x, hx, hxt, rfl⟩
    · rw [L_go_nil] at h hk
      refine m_X12_go ⟨by omega, by omega⟩ ⟨by omega, by omega⟩ ⟨by omega, by omega⟩ fun _ => ⟨fun _ => ⟨hR.1, e_addLeaf hR hL h0 (by simp at hk; omega) ⟨by omega, by omega⟩ fun _ _ => h⟩, fun g => absurd (by omega) g⟩
    · obtain ⟨a1, a2, r, a3, a4⟩ := e_rs.hd hx
      refine m_X12_go (d := d + 2 * D + 5) ⟨by omega, by omega⟩ ⟨by omega, by omega⟩ ⟨by omega, by omega⟩ fun _ => ⟨fun g => absurd g (by omega), fun _ => ⟨hR.1, b, hR.2.1, _, hR.2.2, ⟨by omega, by omega⟩, ?_⟩⟩
      rw [v4]
      have hdoc : z.2.1 = 3 ∨ z.2.1 = 4 → ∃ (D1 : Nat) (es : List b_E), D = D1 + 1 ∧ z.2.2.2 = b_doc es ∧ e_tl (g_i M b) (z.1 + 2 + z.2.2.1.length) (z.1 + 2 + z.2.2.1.length + 4) D1 es es ∧ (z.2.1 = 4 → ∀ (i : Nat) (e : b_E), es[i]? = some e → e.2.1 = b_dg i) ∧ L_ch z.1 z.2 = L_at (z.1 + 2 + z.2.2.1.length + 4) es ∧ (b_ser es).length ≤ 19000 := by
        intro hk34
        obtain ⟨D1, es, e1, e2, e3, e4, e5, e6, e7⟩ := b_gv_doc hs.2.2.1 hk34
        refine ⟨D1, es, e1, e2, e_tl.start (by rwa [← e2]) e5 (by omega) (by rw [← e2]; omega), e6, ?_, ?_⟩
        · unfold L_ch
          rw [e7, show z.1 + 6 + (z.2.2.1.length : Int) = z.1 + 2 + z.2.2.1.length + 4 by omega]
        · rw [e2, b_doc_len] at hvb
          omega
      refine ⟨fun k3 => ?_, fun k3 => ⟨b, hR.2.1, _, hR.2.2, ⟨by omega, by omega⟩, ?_⟩⟩
      · obtain ⟨D1, es, rfl, e2, e3, e4, e5, e6⟩ := hdoc (Or.inl k3)
        have hgoe : L_go (D1 + 1) z.1 z.2 (p_sp x) = L_doc D1 (L_at (z.1 + 2 + z.2.2.1.length + 4) es) (p_sp x) := by
          rw [a3]
          unfold L_go
          rw [if_pos k3, e5]
          rfl
        rw [hgoe] at h hk
        refine e_vl2 hR hs fun _ _ _ => e_goDoc (d := d + 2 * D1) hR hL h0 e3 hx hxt hp hto hk (fun z2 q r2 b0 b1 b2 b3 b4 b5 b6 => ?_) fun _ _ => h
        exact ih D1 (by omega) (d := d) hR hL h0 b1 (by have := L_at_vb b0; omega) b2 b3 b4 hto b5 b6
      · rw [v4]
        refine ⟨fun k4 => ?_, fun k4 => ?_⟩
        · obtain ⟨D1, es, rfl, e2, e3, e4, e5, e6⟩ := hdoc (Or.inr k4)
          have hmany := b_ser_many es
          have hgoe : ∀ r, p_sp x = p_hd x :: r → L_go (D1 + 1) z.1 z.2 (p_sp x) = (match L_find (p_hd x) (L_at (z.1 + 2 + z.2.2.1.length + 4) es) with
            | none => []
            | some z => L_go D1 z.1 z.2 r) ++ (L_at (z.1 + 2 + z.2.2.1.length + 4) es).flatMap (fun z => if z.2.1 = 3 then L_go D1 z.1 z.2 (p_sp x) else []) := by
            intro r hr
            rw [hr]
            show (if z.2.1 = 3 then _ else if z.2.1 = 4 then _ else _) = _
            rw [if_neg k3, if_pos k4, e5]
            rfl
          refine e_vl2 hR hs fun _ _ _ => e_goRow (d := d + 2 * D1) (D := D1) hR hL h0 e3 (e4 k4) (by omega) hx hxt hp hto (fun r => match L_find (p_hd x) (L_at (z.1 + 2 + z.2.2.1.length + 4) es) with
            | none => []
            | some z => L_go D1 z.1 z.2 r) (fun r _ => rfl) (fun r hr => by rw [hgoe r hr] at hk; exact hk) (fun M1 k1 Q1 z2 q r2 b0 b1 b2 b3 b4 b5 b6 b7 b8 b9 b10 => ?_) (fun M1 k1 Q1 z2 b0 b1 b2 b3 b4 b5 b6 b7 b8 => ?_) (fun r hr _ _ => by rw [hgoe r hr] at h; exact h)
          · exact ih D1 (by omega) (d := d) b1 b2 b4 (by rw [b3]; exact b5) (by have := L_at_vb b0; omega) (by rw [b3]; exact b6) b7 b8 hto b9 b10
          · obtain ⟨D2, es2, rfl, f2, f3, f4, f5, -, f7⟩ := b_gv_doc b5.2.2.1 (Or.inl b6)
            obtain ⟨w1, w2, w3, w4⟩ := b5.val
            have hvz := L_at_vb b0
            have hlz : z2.2.2.2.length = (b_ser es2).length + 5 := by rw [f2, b_doc_len]
            have hgoe2 : L_go (D2 + 1) z2.1 z2.2 (p_sp x) = L_doc D2 (L_at (z2.1 + 2 + z2.2.2.1.length + 4) es2) (p_sp x) := by
              rw [a3]
              unfold L_go
              rw [if_pos b6]
              unfold L_ch
              rw [f7, show z2.1 + 6 + (z2.2.2.1.length : Int) = z2.1 + 2 + z2.2.2.1.length + 4 by omega]
              rfl
            rw [hgoe2] at b7 b8
            refine e_goDoc (d := d + 2 * D2 + 1) b1 b2 b4 (by rw [b3]; exact e_tl.start (by rwa [← f2]) f5 (by omega) (by rw [← f2]; omega)) (by rw [b3]; exact hx) hxt hp hto b7 (fun z3 q r2 g0 g1 g2 g3 g4 g5 g6 => ?_) b8
            have h9 := ih D2 (by omega) (d := d + 1) b1 b2 b4 g1 (by have := L_at_vb g0; omega) g2 g3 g4 hto g5 g6
            rwa [show d + 1 + 2 * D2 + 6 = d + 2 * D2 + 1 + 6 by omega] at h9
        · have hgoe : L_go D z.1 z.2 (p_sp x) = [none] := by
            rw [a3]
            cases D with
            | zero => rfl
            | succ D =>
              show (if z.2.1 = 3 then _ else if z.2.1 = 4 then _ else _) = _
              rw [if_neg k3, if_neg k4]
          rw [hgoe] at h hk
          exact e_addLeaf hR hL h0 (by simp at hk; omega) ⟨by decide, by decide⟩ fun _ _ => h
end GOE2
