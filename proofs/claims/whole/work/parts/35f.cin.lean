/-! REQUESTS, THE CLASS: insert -/
/-- marks of documents none of which is marked -/
def Z_f (ds : List (Int × List b_E)) : List (Bool × Int × List b_E) := ds.map fun z => (false, z)
theorem Z_f_mk (V : I_V) : ∀ ds : List (Int × List b_E), I_mk V (Z_f ds) = []
  | [] => rfl
  | z :: ds => by
    have e : I_mk V (Z_f (z :: ds)) = [] ++ I_mk V (Z_f ds) := rfl
    rw [e, Z_f_mk V ds]
    rfl
theorem Z_f_mn (f : List b_E → List I_K) (m : Int) (ds : List (Int × List b_E)) : I_mn f m (Z_f ds) = m := by
  unfold I_mn
  rw [if_neg]
  intro h
  obtain ⟨z, hz, h⟩ := List.any_eq_true.mp h
  obtain ⟨y, -, rfl⟩ := List.mem_map.mp hz
  exact absurd h (by simp)
theorem Z_f_inn (ds : List (Int × List b_E)) (t : I_T) : I_inn (Z_f ds) t = t := by
  rcases t with _ | ⟨V, T, m1, m2⟩
  · rfl
  · show some (V, I_in V (I_mk V (Z_f ds)) T, I_mn (I_key1 V) m1 (Z_f ds), I_mn (I_key2 V) m2 (Z_f ds)) = _
    rw [Z_f_mk, Z_f_mn, Z_f_mn]
    rfl
theorem Z_f_add (ds : List (Int × List b_E)) (no : Int) (es : List b_E) (t : I_T) : I_inn (Z_f ds ++ [(true, no, es)]) t = I_add1 es no t := by
  rw [I_inn_snoc, if_pos rfl, Z_f_inn]
theorem Z_f_mk1 (V : I_V) (ds : List (Int × List b_E)) (no : Int) (es : List b_E) : I_mk V (Z_f ds ++ [(true, no, es)]) = I_ens V es no := by
  rw [I_mk_app, Z_f_mk, I_mk_1, if_pos rfl]
  rfl
section CIN
variable {d : Nat} {ι : Nat → Nat} {κ : Nat → Nat → Nat} {al sz : Nat → Nat × Nat} {cB eB : Int} {st : Nat → I_T} {D : Nat → List (Int × List b_E)} {gv : Nat → Int} {M M1 : g_M} {x w : Nat} {u : List Int}
/-- the answer's bytes come -/
theorem C_H.wr (h : C_H ι κ al sz cB eB st D gv M) (f : e_fr (c_WL (ι 3) (ι 4) 0 8000) M M1) : C_H ι κ al sz cB eB st D gv M1 ∧ ∀ a ∈ Ck_k, a ≠ 3 → a ≠ 4 → g_i M1 (ι a) = g_i M (ι a) ∧ g_r M1 (ι a) = g_r M (ι a) := by
  have hS : ∀ y k, c_WL (ι 3) (ι 4) 0 8000 y k → y = ι 3 ∨ y = ι 4 := fun y k z => by
    rcases z with ⟨z, -⟩ | ⟨z, -⟩
    · exact Or.inl z
    · exact Or.inr z
  refine ⟨h.es (T := [3, 4]) f (by decide) fun y k z => ?_, fun a ha a3 a4 => ⟨funext fun k => f.2.1 _ _ fun z => ?_, funext fun k => f.2.2 _ _⟩⟩
  · rcases hS y k z with e | e
    · exact ⟨3, by decide, e, fun g => absurd g (by decide)⟩
    · exact ⟨4, by decide, e, fun g => absurd g (by decide)⟩
  · rcases hS _ k z with e | e
    · exact h.2.1.ne ha (by decide) a3 e
    · exact h.2.1.ne ha (by decide) a4 e
theorem C_H.Wr (hf : C_f1 ι M M1) (hW : c_Wr (ι 3) (ι 4) 8000 0 8000 u M) : c_Wr (ι 3) (ι 4) 8000 0 8000 u M1 := hW.sm hf.1 (hf.2.2 3 (by decide) (by decide)) (hf.2.2 4 (by decide) (by decide)).1
/-- the indexes of a shelf -/
theorem C_H.xs (h : C_H ι κ al sz cB eB st D gv M) (hw : w < 2) : ∃ r, r ∈ Ck_k ∧ g_r M (ι (67 + w)) 4 = some (ι r) ∧ g_A M (ι r) 3 4 ∧ ∀ i : Nat, i < 4 → g_r M (ι r) (i : Int) = some (κ (4 * w + i) 0) := by
  have hw2 : w = 0 ∨ w = 1 := by omega
  rcases hw2 with e | e
  · subst e
    refine ⟨71, by decide, h.1.r (a := 67) (by decide), h.1.A (by decide), fun i hi => ?_⟩
    have h9 := (h.1.2.2 i (by omega)).2.2.2
    rw [if_pos hi, Nat.mod_eq_of_lt hi] at h9
    rw [Nat.mul_zero, Nat.zero_add]
    exact h9
  · subst e
    refine ⟨75, by decide, h.1.r (a := 68) (by decide), h.1.A (by decide), fun i hi => ?_⟩
    have h9 := (h.1.2.2 (4 * 1 + i) (by omega)).2.2.2
    rw [if_neg (by omega), show (4 * 1 + i) % 4 = i by omega] at h9
    exact h9
theorem C_H.gF (h : C_H ι κ al sz cB eB st D gv M) (hw : w < 2) : g_O M (ι 0) 11 ∧ g_O M (ι (67 + w)) 8 ∧ g_A M (ι 90) 2 200 ∧ g_r M (ι 0) 10 = some (ι 90) ∧ g_r M (ι 0) 1 = some (ι 3) ∧ g_r M (ι 0) 0 = some (ι 2) := ⟨h.1.O (by decide), (h.2.2.2.2.1 w hw).1.1, h.1.A (by decide), h.1.r (by decide), h.1.r (by decide), h.1.r (by decide)⟩
theorem c_fail {Q : g_M → Prop} {v1 v2 : Int} (hO : g_O M x 11) (h1 : g_InR v1) (h2 : g_InR v2) (hq : Q (g_wi (g_wi M x 17 v1) x 18 v2)) : g_Call (d + 1) 197 [.ref x, g_n v1, g_n v2] M (g_qV Q) := m_X11_fail h1 h2 fun _ => ⟨hO, fun M2 e2 _ M6 e6 _ => by
  rw [e6, e2]
  exact hq⟩
theorem c_insertQ {Q : g_M → Prop} {pe : Int} {nm : List Int} {es : List b_E} (h : C_H ι κ al sz cB eB st D gv M) (hw : w < 2) (h16 : g_r M (ι 0) 16 = some (ι (67 + w))) (h14 : g_i M (ι 0) 14 = pe) (he : b_st (g_i M (ι 2)) 2008 pe 16 3 nm (b_doc es)) (hnm : nm.length ≤ 50) (hl : (b_doc es).length ≤ 2000) (hg : X_gd 15 es) (hgv : 0 ≤ gv w ∧ gv w ≤ 1000000) (hok : ∀ x, 4 * w ≤ x → x < 4 * w + 4 → ∀ V T m1 m2, st x = some (V, T, m1, m2) → (N_all T).length ≤ 1000 ∧ ((N_all T).length + I_num V es ≤ 1000 → I_can V T (I_ens V es (gv w + 1)))) (hW : c_Wr (ι 3) (ι 4) 8000 0 8000 u M) (hn : ¬ ((D w).length < 200 ∧ S_sum ((D w).map Prod.snd) + (b_doc es).length ≤ 40000 ∧ ∀ x, 4 * w ≤ x → x < 4 * w + 4 → I_fit es (st x)) → ∀ M1, C_H ι κ al sz cB eB st D gv M1 → C_f1 ι M M1 → Q (g_wi (g_wi M1 (ι 0) 17 40) (ι 0) 18 (-1))) (hy : ((D w).length < 200 ∧ S_sum ((D w).map Prod.snd) + (b_doc es).length ≤ 40000 ∧ ∀ x, 4 * w ≤ x → x < 4 * w + 4 → I_fit es (st x)) → ∀ sz1 M1, C_H ι κ al sz1 cB eB (I_lp (I_add1 es (gv w + 1)) w st (4 * w + 4)) (H_up D w (D w ++ [(gv w + 1, es)])) (H_up gv w (gv w + 1)) M1 → g_i M1 (ι 0) = g_i M (ι 0) ∧ g_r M1 (ι 0) = g_r M (ι 0) → c_Wr (ι 3) (ι 4) 8000 0 8000 (u ++ b_el 16 (b_tx 13) (b_le4 (gv w + 1))) M1 → Q M1) : g_Call (d + 63) 213 [.ref (ι 0)] M (g_qV Q) := by
  obtain ⟨w1, w2, w3, w4, w5, w6⟩ := Ck_w hw
  have hk : ∀ {M' : g_M}, C_f1 ι M M' → g_i M' (ι 0) = g_i M (ι 0) ∧ g_r M' (ι 0) = g_r M (ι 0) := fun f => f.2.2 0 (by decide) (by decide)
  have hbm : b_st (g_i M (ι 2)) 246408 pe 16 3 nm (b_doc es) := ⟨he.1, he.2.1, he.2.2.1, he.2.2.2.1, by have := he.2.2.2.2; omega⟩
  obtain ⟨g0, gs, gh, gr10, gr1, gr0⟩ := h.gF hw
  have hs := h.2.2.2.2.1 w hw
  have hbA : g_A M (ι 2) 0 246408 := h.1.A (by decide)
  have hel := b_el_len 3 nm (b_doc es)
  have hdl := b_doc_len es
  have hl200 := hs.2.2.2.2.1.1
  rw [List.length_map] at hl200
  have hsum := hs.2.2.2.2.1.2.1
  have p0 := he.2.2.2.1
  have p1 := he.2.2.2.2
  refine m_X11_insert (d := d + 62) fun _ => ⟨g0, ι 2, gr0, ?_⟩
  rw [h14]
  refine c_nx2 (d := d + 61) hbA (by decide) hbm ?_
  intro _ _ _
  refine ⟨ι 2, gr0, ?_⟩
  rw [h14]
  refine c_va2 (d := d + 61) hbA (by decide) hbm ?_
  intro _ _ _
  rw [show pe + ((b_el 3 nm (b_doc es)).length : Int) - (pe + 2 + (nm.length : Int)) = ((b_doc es).length : Int) by omega]
  have c6 : g_i M (ι (67 + w)) 6 = (D w).length := hs.2.2.1.1
  have c7 : g_i M (ι (67 + w)) 7 = S_sum ((D w).map Prod.snd) := hs.2.2.1.2.1
  have hlR : g_InR ((b_doc es).length : Int) := ⟨by omega, by omega⟩
  obtain ⟨base, hbase⟩ : ∃ base : Prop, base = ((D w).length < 200 ∧ S_sum ((D w).map Prod.snd) + (b_doc es).length ≤ 40000) := ⟨_, rfl⟩
  obtain ⟨r, rk, rr, rA, ri⟩ := h.xs hw
  -- the entries come
  have h158 : base → (∀ x, 4 * w ≤ x → x < 4 * w + 4 → I_fit es (st x)) → ∀ (j i : Nat) (sz1 : Nat → Nat × Nat) (M' : g_M), i + j = 4 → C_H ι κ al sz1 cB eB (I_lp (I_add1 es (gv w + 1)) w st (4 * w + i)) (H_up D w (D w ++ [(gv w + 1, es)])) (H_up gv w (gv w + 1)) M' → (g_i M' (ι 0) = g_i M (ι 0) ∧ g_r M' (ι 0) = g_r M (ι 0)) → c_Wr (ι 3) (ι 4) 8000 0 8000 u M' → I_sh (ι 2) (ι (67 + w)) (ι (69 + 4 * w)) (ι (70 + 4 * w)) (ι 90) 246408 (Z_f (D w) ++ [(true, gv w + 1, es)]) M' → g_Run (d + 62) 213 158 [(0, .ref (ι 0)), (1, g_n ((b_doc es).length : Int)), (2, g_n 1), (3, g_n ((D w).length : Int)), (4, g_n (i : Int))] [] M' (g_qV Q) := by
    intro hb1 hfit j
    induction j with
    | zero =>
      intro i sz1 M' hij H' k' W' s'
      have hi4 : i = 4 := by omega
      subst hi4
      obtain ⟨g0', gs', gh', gr10', gr1', gr0'⟩ := H'.gF hw
      have hs' := H'.2.2.2.2.1 w hw
      have e1 : H_up D w (D w ++ [(gv w + 1, es)]) w = D w ++ [(gv w + 1, es)] := if_pos rfl
      have e2 : H_up gv w (gv w + 1) w = gv w + 1 := if_pos rfl
      rw [e1, e2] at hs'
      obtain ⟨p, -, -, -, -, n1, -⟩ := hs'.at (i := (D w).length) (z := (gv w + 1, es)) (by rw [List.getElem?_append_right (Nat.le_refl _), Nat.sub_self]; rfl)
      have n1 : g_i M' (ι (70 + 4 * w)) ((D w).length : Int) = gv w + 1 := n1
      have hl2 : (D w).length < 200 := by
        rw [hbase] at hb1
        exact hb1.1
      refine s_X11_insert_158 (a0 := ι 0) hlR ⟨by decide, by decide⟩ ⟨by omega, by omega⟩ ⟨by omega, by omega⟩ fun _ => ⟨fun g => absurd g (by decide), fun _ => ⟨g0', ι 3, gr1', ι (67 + w), by rw [k'.2]; exact h16, gs', ι (70 + 4 * w), hs'.1.2.2.2.1, 200, hs'.1.2.2.2.2.2.1, ⟨by omega, by omega⟩, H'.1.O (by decide), ?_⟩⟩
      rw [n1]
      refine c_named2 (d := d + 58) (j := 13) (by decide) W' ⟨by omega, by omega⟩ fun M2 f2 W2 => ?_
      intro _ _
      obtain ⟨H2, k2⟩ := H'.wr f2
      have k02 := k2 0 (by decide) (by decide) (by decide)
      rw [hbase] at hb1
      exact hy ⟨hb1.1, hb1.2, hfit⟩ sz1 M2 H2 ⟨k02.1.trans k'.1, k02.2.trans k'.2⟩ W2
    | succ j ih =>
      intro i sz1 M' hij H' k' W' s'
      obtain ⟨g0', gs', gh', gr10', gr1', gr0'⟩ := H'.gF hw
      obtain ⟨r', rk', rr', rA', ri'⟩ := H'.xs hw
      refine s_X11_insert_158 (a0 := ι 0) hlR ⟨by decide, by decide⟩ ⟨by omega, by omega⟩ ⟨by omega, by omega⟩ fun _ => ⟨fun _ => ⟨g0', ι (67 + w), by rw [k'.2]; exact h16, gs', ι r', rr', 4, rA', ⟨by omega, by omega⟩, κ (4 * w + i) 0, ri' i (by omega), ι (67 + w), by rw [k'.2]; exact h16, ι 90, gr10', H'.1.xO (by omega) (by decide), ?_⟩, fun g => absurd (by omega) g⟩
      have elp : I_lp (I_add1 es (gv w + 1)) w st (4 * w + i) (4 * w + i) = st (4 * w + i) := I_lp_at _ _ _ _
      refine c_inH (d := d) H' (by omega) hw s' (fun V T m1 m2 e => ?_) fun sz2 M2 H2 f2 s2 => ?_
      · rw [elp] at e
        rw [Z_f_mk1]
        have ho := hok (4 * w + i) (by omega) (by omega) V T m1 m2 e
        exact ho.2 (hfit (4 * w + i) (by omega) (by omega) V T m1 m2 e)
      · intro _ _
        refine ⟨⟨by omega, by omega⟩, ?_⟩
        rw [elp, Z_f_add, ← I_lp_s _ _ _ (by omega)] at H2
        have k2 := f2.2.2 0 (by decide) (by decide)
        have h9 := ih (i + 1) sz2 M2 (by omega) H2 ⟨k2.1.trans k'.1, k2.2.trans k'.2⟩ (C_H.Wr f2 W') s2
        rw [show ((i + 1 : Nat) : Int) = (i : Int) + 1 by omega] at h9
        exact h9
  -- the document is marked
  have h119 : base → (∀ x, 4 * w ≤ x → x < 4 * w + 4 → I_fit es (st x)) → ∀ (j i : Nat) (M' : g_M), i + j = (D w).length + 1 → C_H ι κ al sz cB eB st (H_up D w (D w ++ [(gv w + 1, es)])) (H_up gv w (gv w + 1)) M' → (g_i M' (ι 0) = g_i M (ι 0) ∧ g_r M' (ι 0) = g_r M (ι 0)) → c_Wr (ι 3) (ι 4) 8000 0 8000 u M' → (∀ q : Nat, q < i → g_i M' (ι 90) q = if q = (D w).length then 1 else 0) → g_Run (d + 62) 213 119 [(0, .ref (ι 0)), (1, g_n ((b_doc es).length : Int)), (2, g_n 1), (3, g_n ((D w).length : Int)), (4, g_n (i : Int))] [] M' (g_qV Q) := by
    intro hb1 hfit j
    have hl2 : (D w).length < 200 := by
      rw [hbase] at hb1
      exact hb1.1
    have e1 : H_up D w (D w ++ [(gv w + 1, es)]) w = D w ++ [(gv w + 1, es)] := if_pos rfl
    induction j with
    | zero =>
      intro i M' hij H' k' W' hm
      obtain ⟨g0', gs', gh', gr10', gr1', gr0'⟩ := H'.gF hw
      have hs' := H'.2.2.2.2.1 w hw
      have c6' : g_i M' (ι (67 + w)) 6 = ((D w).length : Int) + 1 := by
        rw [hs'.2.2.1.1, e1, List.length_append, List.length_singleton]
        omega
      refine s_X11_insert_119 (a0 := ι 0) hlR ⟨by decide, by decide⟩ ⟨by omega, by omega⟩ ⟨by omega, by omega⟩ fun _ => ⟨g0', ι (67 + w), by rw [k'.2]; exact h16, gs', fun g => absurd g (by rw [c6']; omega), fun _ => ?_⟩
      have hsh : I_sh (ι 2) (ι (67 + w)) (ι (69 + 4 * w)) (ι (70 + 4 * w)) (ι 90) 246408 (Z_f (D w) ++ [(true, gv w + 1, es)]) M' := by
        refine H'.sh hw ?_ fun q z hq => ?_
        · rw [e1, List.map_append]
          unfold Z_f
          rw [List.map_map]
          have : (D w).map ((fun z : Bool × Int × List b_E => z.2) ∘ fun z => (false, z)) = D w := List.map_id' (D w)
          rw [this]
          rfl
        · have hql := (List.getElem?_eq_some_iff.mp hq).1
          rw [List.length_append, List.length_singleton] at hql
          unfold Z_f at hql hq
          rw [List.length_map] at hql
          rw [hm q (by omega)]
          by_cases e : q = (D w).length
          · rw [List.getElem?_append_right (by rw [List.length_map]; omega), List.length_map, e, Nat.sub_self] at hq
            have hq : (true, gv w + 1, es) = z := Option.some.inj hq
            rw [if_pos e, ← hq, if_pos rfl]
          · rw [List.getElem?_append_left (by rw [List.length_map]; omega), List.getElem?_map] at hq
            cases hdq : (D w)[q]? with
            | none =>
              rw [hdq] at hq
              exact absurd hq (by simp)
            | some y =>
              rw [hdq] at hq
              have hq : (false, y) = z := Option.some.inj hq
              rw [if_neg e, ← hq]
              rfl
      have h9 := h158 hb1 hfit 4 0 sz M' rfl (by rw [Nat.add_zero, I_lp_0]; exact H') k' W' hsh
      exact h9
    | succ j ih =>
      intro i M' hij H' k' W' hm
      obtain ⟨g0', gs', gh', gr10', gr1', gr0'⟩ := H'.gF hw
      have hs' := H'.2.2.2.2.1 w hw
      have c6' : g_i M' (ι (67 + w)) 6 = ((D w).length : Int) + 1 := by
        rw [hs'.2.2.1.1, e1, List.length_append, List.length_singleton]
        omega
      have hj0 := H'.2.1
      have hnext : ∀ (M2 : g_M) (v : Int), M2 = g_wi M' (ι 90) i v → (v = if i = (D w).length then 1 else 0) → g_Run (d + 62) 213 119 [(0, .ref (ι 0)), (1, g_n ((b_doc es).length : Int)), (2, g_n 1), (3, g_n ((D w).length : Int)), (4, g_n ((i : Int) + 1))] [] M2 (g_qV Q) := fun M2 v e2 hv => by
        have f2 : e_fr (fun y _ => y = ι 90) M' M2 := by
          rw [e2]
          exact e_fr.wi v rfl
        have sm : ∀ a ∈ Ck_k, a ≠ 90 → g_i M2 (ι a) = g_i M' (ι a) ∧ g_r M2 (ι a) = g_r M' (ι a) := fun a ha hn => ⟨funext fun k => f2.2.1 _ _ fun z => hj0.ne ha (by decide) hn z, funext fun k => f2.2.2 _ _⟩
        have s0 := sm 0 (by decide) (by decide)
        have hx2 : g_ext M' M2 := fun a c hc => by
          rw [f2.sh]
          exact hc
        have h9 := ih (i + 1) M2 (by omega) (H'.es (T := [90]) f2 (by decide) fun y k z => ⟨90, by decide, z, fun g => absurd g (by decide)⟩) ⟨s0.1.trans k'.1, s0.2.trans k'.2⟩ (W'.sm hx2 (sm 3 (by decide) (by decide)) (sm 4 (by decide) (by decide)).1) fun q hq => by
          rw [e2, g_i_ws]
          by_cases e : (q : Int) = i
          · rw [if_pos e, hv]
            have : q = i := by omega
            rw [this]
          · rw [if_neg e]
            exact hm q (by omega)
        rw [show ((i + 1 : Nat) : Int) = (i : Int) + 1 by omega] at h9
        exact h9
      refine s_X11_insert_119 (a0 := ι 0) hlR ⟨by decide, by decide⟩ ⟨by omega, by omega⟩ ⟨by omega, by omega⟩ fun _ => ⟨g0', ι (67 + w), by rw [k'.2]; exact h16, gs', fun _ => ⟨ι 90, gr10', fun g => ⟨200, gh', ⟨by omega, by omega⟩, fun M18 e18 _ => ⟨⟨by omega, by omega⟩, hnext M18 1 e18 (by rw [if_pos (by omega)])⟩⟩, fun g => ⟨200, gh', ⟨by omega, by omega⟩, fun M10 e10 _ => ⟨⟨by omega, by omega⟩, hnext M10 0 e10 (by rw [if_neg (by omega)])⟩⟩⟩, fun g => absurd (by rw [c6']; omega) g⟩
  -- the indexes are asked
  have h60 : ∀ (j i : Nat) (v2 : Int) (M' : g_M), i + j = 4 → C_H ι κ al sz cB eB st D gv M' → C_f1 ι M M' → (v2 = 0 ∨ v2 = 1) → (v2 = 1 ↔ (base ∧ ∀ x, 4 * w ≤ x → x < 4 * w + i → I_fit es (st x))) → g_Run (d + 62) 213 60 [(0, .ref (ι 0)), (1, g_n ((b_doc es).length : Int)), (2, g_n v2), (3, g_n (i : Int))] [] M' (g_qV Q) := by
    have h92 : ∀ (i : Nat) (v2 : Int) (M' : g_M), i ≤ 4 → C_H ι κ al sz cB eB st D gv M' → C_f1 ι M M' → (v2 = 0 ∨ v2 = 1) → (v2 = 1 → i = 4) → (v2 = 1 ↔ (base ∧ ∀ x, 4 * w ≤ x → x < 4 * w + i → I_fit es (st x))) → g_Run (d + 62) 213 92 [(0, .ref (ι 0)), (1, g_n ((b_doc es).length : Int)), (2, g_n v2), (3, g_n (i : Int))] [] M' (g_qV Q) := by
      intro i v2 M' hi4 H' f' hv hv4 hiff
      obtain ⟨g0', gs', gh', gr10', gr1', gr0'⟩ := H'.gF hw
      have k' := hk f'
      have vR : g_InR v2 := by rcases hv with g | g <;> rw [g] <;> exact ⟨by decide, by decide⟩
      refine s_X11_insert_92 (a0 := ι 0) hlR vR ⟨by omega, by omega⟩ fun _ => ⟨fun g => ⟨g0', c_fail (d := d + 61) g0' ⟨by decide, by decide⟩ ⟨by decide, by decide⟩ ?_⟩, fun g => ⟨g0', ι (67 + w), by rw [k'.2]; exact h16, gs', ?_⟩⟩
      · intro _ _
        refine hn (fun hall => ?_) M' H' f'
        have : v2 = 1 := hiff.mpr ⟨by rw [hbase]; exact ⟨hall.1, hall.2.1⟩, fun x x1 x2 => hall.2.2 x x1 (by omega)⟩
        omega
      · have v1 : v2 = 1 := by omega
        have hi := hv4 v1
        subst hi
        obtain ⟨hb1, hfit⟩ := hiff.mp v1
        have hb1' := hb1
        rw [hbase] at hb1'
        rw [v1, k'.1, h14]
        have hb2 := f'.2.2 2 (by decide) (by decide)
        refine c_sadd (d := d + 60) (H'.2.2.2.2.1 w hw) (by rw [hb2.1]; exact hbm) (Or.inl (by omega)) hb1'.1 (by omega) hl hg hgv fun M2 f2 s2 => ?_
        intro _ _ _
        have H2 := H'.sf hw f2 s2
        have hj0 := H'.2.1
        have sm : ∀ a ∈ Ck_k, a ≠ 67 + w → a ≠ 69 + 4 * w → a ≠ 70 + 4 * w → a ≠ 2 → g_i M2 (ι a) = g_i M' (ι a) ∧ g_r M2 (ι a) = g_r M' (ι a) := fun a ha n1 n2 n3 n4 => ⟨funext fun k => f2.2.1 _ _ fun z => by
          rcases z with ⟨z, -⟩ | z | z | ⟨z, -⟩
          · exact hj0.ne ha w1 n1 z
          · exact hj0.ne ha w2 n2 z
          · exact hj0.ne ha w3 n3 z
          · exact hj0.ne ha (by decide) n4 z, funext fun k => f2.2.2 _ _⟩
        have s0 := sm 0 (by decide) (by omega) (by omega) (by omega) (by decide)
        have hx2 : g_ext M' M2 := fun a c hc => by
          rw [f2.sh]
          exact hc
        exact h119 hb1 hfit ((D w).length + 1) 0 M2 (by omega) H2 ⟨s0.1.trans k'.1, s0.2.trans k'.2⟩ ((C_H.Wr f' hW).sm hx2 (sm 3 (by decide) (by omega) (by omega) (by omega) (by decide)) (sm 4 (by decide) (by omega) (by omega) (by omega) (by decide)).1) fun q hq => absurd hq (Nat.not_lt_zero q)
    intro j
    induction j with
    | zero =>
      intro i v2 M' hij H' f' hv hiff
      have vR : g_InR v2 := by rcases hv with g | g <;> rw [g] <;> exact ⟨by decide, by decide⟩
      exact s_X11_insert_60 (a0 := ι 0) hlR vR ⟨by omega, by omega⟩ fun _ => ⟨fun g => absurd g (by omega), fun _ => h92 i v2 M' (by omega) H' f' hv (fun _ => by omega) hiff⟩
    | succ j ih =>
      intro i v2 M' hij H' f' hv hiff
      obtain ⟨g0', gs', gh', gr10', gr1', gr0'⟩ := H'.gF hw
      obtain ⟨r', rk', rr', rA', ri'⟩ := H'.xs hw
      have k' := hk f'
      have vR : g_InR v2 := by rcases hv with g | g <;> rw [g] <;> exact ⟨by decide, by decide⟩
      refine s_X11_insert_60 (a0 := ι 0) hlR vR ⟨by omega, by omega⟩ fun _ => ⟨fun _ => ⟨fun g => h92 i v2 M' (by omega) H' f' hv (fun z => by omega) hiff, fun g => ⟨g0', ι (67 + w), by rw [k'.2]; exact h16, gs', ι r', rr', 4, rA', ⟨by omega, by omega⟩, κ (4 * w + i) 0, ri' i (by omega), H'.1.xO (by omega) (by decide), ?_⟩⟩, fun g => absurd (by omega) g⟩
      have v1 : v2 = 1 := by omega
      obtain ⟨hb1, hfit⟩ := hiff.mp v1
      rw [k'.1, h14]
      have hb2 := f'.2.2 2 (by decide) (by decide)
      have hext : ∀ x, 4 * w ≤ x → x < 4 * w + (i + 1) → ¬ x = 4 * w + i → I_fit es (st x) := fun x x1 x2 x3 => hfit x x1 (by omega)
      refine c_fitAH (d := d) H' (x := 4 * w + i) (by omega) hnm (by rw [hb2.1]; exact hbm) hl (fun V T m1 m2 e => (hok _ (by omega) (by omega) V T m1 m2 e).1) (fun hf M2 H2 f2 => ?_) fun hf M2 H2 f2 => ?_
      · intro _ _ _
        refine ⟨⟨by omega, by omega⟩, ?_⟩
        have h9 := ih (i + 1) 1 M2 (by omega) H2 (f'.tr f2) (Or.inr rfl) ⟨fun _ => ⟨hb1, fun x x1 x2 => by
          by_cases e : x = 4 * w + i
          · rw [e]
            exact hf
          · exact hext x x1 x2 e⟩, fun _ => rfl⟩
        rw [show ((i + 1 : Nat) : Int) = (i : Int) + 1 by omega] at h9
        exact h9
      · intro _ _ _
        refine ⟨⟨by omega, by omega⟩, ?_⟩
        have h9 := ih (i + 1) 0 M2 (by omega) H2 (f'.tr f2) (Or.inl rfl) ⟨fun z => absurd z (by decide), fun z => absurd (z.2 (4 * w + i) (by omega) (by omega)) hf⟩
        rw [show ((i + 1 : Nat) : Int) = (i : Int) + 1 by omega] at h9
        exact h9
  have hst0 : ∀ v2 : Int, (v2 = 0 ∨ v2 = 1) → (v2 = 1 ↔ base) → g_Run (d + 62) 213 60 [(0, .ref (ι 0)), (1, g_n ((b_doc es).length : Int)), (2, g_n v2), (3, g_n 0)] [] M (g_qV Q) := fun v2 hv hiff => h60 4 0 v2 M rfl h (C_f1.rf ι M) hv ⟨fun z => ⟨hiff.mp z, fun x x1 x2 => by omega⟩, fun z => hiff.mpr z.1⟩
  refine ⟨hlR, ι (67 + w), h16, gs, fun g => ⟨ι (67 + w), h16, gs, by rw [c7]; exact ⟨by omega, by omega⟩, fun g2 => hst0 0 (Or.inl rfl) ⟨fun z => absurd z (by decide), fun z => ?_⟩, fun g2 => hst0 1 (Or.inr rfl) ⟨fun _ => ?_, fun _ => rfl⟩⟩, fun g => hst0 0 (Or.inl rfl) ⟨fun z => absurd z (by decide), fun z => ?_⟩⟩
  · rw [c7] at g2
    rw [hbase] at z
    omega
  · rw [c7] at g2
    rw [c6] at g
    rw [hbase]
    exact ⟨by omega, by omega⟩
  · rw [c6] at g
    rw [hbase] at z
    omega
end CIN
