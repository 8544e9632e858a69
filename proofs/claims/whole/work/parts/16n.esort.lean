/-! STAGES: $sort, the reference, whole -/
theorem v_ok.neg {r s : Int} (h : v_ok r s) : v_ok (-r) (-s) := by
  obtain ⟨h1, h2, h3⟩ := h
  refine ⟨?_, by omega, by omega⟩
  unfold v_sg at h1 ⊢
  split at h1
  · rw [if_neg (by omega), if_neg (by omega)]
    omega
  · split at h1
    · rw [if_neg (by omega), if_pos (by omega)]
      omega
    · rw [if_pos (by omega)]
      omega
section ESORT
variable {m b l kr be ma : Nat} {M0 M : g_M} {L : List Int} {Q : Int → g_M → Prop} {g : Int} {ds : List (List b_E)} {cs : List b_E}
theorem e_cmpKeys {d D i k : Nat} {c : Int} (hR : e_R M m b) (h34 : g_r M m 34 = some kr) (hkr : g_A M kr 1 800) (hkk : E_kk (g_i M b) kr cs ds (fun j _ => j < ds.length) M) (ht : e_tl (g_i M b) c (c + 4) D cs cs) (hc4 : cs.length ≤ 4) (hways : ∀ x ∈ cs, (O_w x = 1 ∨ O_w x = -1) ∧ p_plain x.2.1) (hl200 : ds.length ≤ 200) (hi : i < ds.length) (hk : k < ds.length) (hcR : g_InR c) (hq : ∀ r, v_ok r (O_ci cs ds i k) → Q r M) : g_Call (d + 47) 357 [.ref m, g_n c, g_n cs.length, g_n i, g_n k] M (g_qI Q) := by
  obtain ⟨es, hes⟩ : ∃ es, ds[i]? = some es := ⟨_, List.getElem?_eq_getElem hi⟩
  obtain ⟨es2, hes2⟩ : ∃ es, ds[k]? = some es := ⟨_, List.getElem?_eq_getElem hk⟩
  have hq' : ∀ r, v_ok r (O_kcmp es es2 cs) → Q r M := by
    unfold O_ci at hq
    rw [List.getD_eq_getElem?_getD, List.getD_eq_getElem?_getD, hes, hes2] at hq
    exact hq
  have hlp : ∀ (r t : List b_E), cs = t ++ r → O_kcmp es es2 r = O_kcmp es es2 cs → g_Run (d + 46) 357 3 [(0, .ref m), (1, g_n c), (2, g_n cs.length), (3, g_n i), (4, g_n k), (5, g_n t.length)] [] M (g_qI Q) := by
    intro r
    induction r with
    | nil =>
      intro t h1 h0
      rw [List.append_nil] at h1
      have hll := congrArg List.length h1
      exact s_X12_compareKeys_3 hcR ⟨by omega, by omega⟩ ⟨by omega, by omega⟩ ⟨by omega, by omega⟩ ⟨by omega, by omega⟩ fun _ => ⟨fun z => absurd z (by omega), fun _ => hq' 0 (by rw [← h0]; exact ⟨(show v_sg 0 = 0 from by decide), by decide, by decide⟩)⟩
    | cons x r ih =>
      intro t h1 h0
      have hl := congrArg List.length h1
      rw [List.length_append, List.length_cons] at hl
      have hx : cs[t.length]? = some x := by rw [h1, List.getElem?_append_right (Nat.le_refl _), Nat.sub_self]; rfl
      obtain ⟨hw, -⟩ := hways x (List.mem_of_getElem? hx)
      obtain ⟨y, y1, y2, y3⟩ := hkk i t.length es x hi hes hx
      obtain ⟨z, z1, z2, z3⟩ := hkk k t.length es2 x hk hes2 hx
      refine s_X12_compareKeys_3 hcR ⟨by omega, by omega⟩ ⟨by omega, by omega⟩ ⟨by omega, by omega⟩ ⟨by omega, by omega⟩ fun _ => ⟨fun _ => ⟨hR.1, kr, h34, ⟨by omega, by omega⟩, ⟨by omega, by omega⟩, _, hkr, ⟨by omega, by omega⟩, kr, h34, ⟨by omega, by omega⟩, ⟨by omega, by omega⟩, _, hkr, ⟨by omega, by omega⟩, ?_⟩, fun z => absurd (by omega) z⟩
      rw [y1, z1]
      refine e_cmpO (d := d + 1) hR y2 z2 fun o ho => ?_
      intro _ _ _
      have hcg := v_oc_T.cg y3 z3
      rw [hcg] at ho
      have hz := ho.zero
      have hun : O_kcmp es es2 (x :: r) = if O_w x * v_oc (O_key (O_w x) es (p_sp x.2.1)) (O_key (O_w x) es2 (p_sp x.2.1)) = 0 then O_kcmp es es2 r else O_w x * v_oc (O_key (O_w x) es (p_sp x.2.1)) (O_key (O_w x) es2 (p_sp x.2.1)) := rfl
      refine ⟨fun g0 => ⟨⟨by omega, by omega⟩, ?_⟩, fun g0 => ?_⟩
      · have h9 := ih (t ++ [x]) (by rw [h1]; simp) (by
          rw [← h0, hun, if_pos]
          rw [hz.mp g0, Int.mul_zero])
        rwa [List.length_append, List.length_singleton, show ((t.length + 1 : Nat) : Int) = (t.length : Int) + 1 by omega] at h9
      · have hnz : v_oc (O_key (O_w x) es (p_sp x.2.1)) (O_key (O_w x) es2 (p_sp x.2.1)) ≠ 0 := fun z => g0 (hz.mpr z)
        obtain ⟨⟨q, x'⟩, hzz⟩ : ∃ z, (L_at (c + 4) cs)[t.length]? = some z := ⟨_, List.getElem?_eq_getElem (by rw [L_at_len]; omega)⟩
        have hzx : x' = x := by
          have h9 := congrArg (fun u => u[t.length]?) (L_at_snd cs (c + 4))
          simp only [List.getElem?_map, hzz, hx, Option.map_some] at h9
          exact Option.some.inj h9
        subst hzx
        have hqs := (L_at_st ht.2.2.2.1 _ (List.mem_of_getElem? hzz)).1
        change b_st (g_i M b) 2706210 q D x'.1 x'.2.1 x'.2.2 at hqs
        have hxk : x'.1 = 16 ∨ x'.1 = 18 := Classical.byContradiction fun z => by
          unfold O_w at hw
          rw [if_neg z] at hw
          omega
        have hxw : O_w x' = (v_num x'.1 x'.2.2).toInt := by
          unfold O_w
          rw [if_pos hxk]
        refine e_itemE (d := d + 41) hR (D := D) (es0 := cs) ht (by omega) ⟨by omega, by omega⟩ ?_
        rw [show ((t.length : Int)).toNat = t.length by omega, hzz, show L_opt (some (q, x')) = q from rfl]
        intro _ _ _
        refine e_num (d := d + 42) hR hqs hxk ?_
        intro _ _
        have hgt := u_gt (v_num x'.1 x'.2.2) 0
        have h00 : (0 : Int64).toInt = 0 := by decide
        rw [h00, ← hxw] at hgt
        have hfin : O_kcmp es es2 cs = O_w x' * v_oc (O_key (O_w x') es (p_sp x'.2.1)) (O_key (O_w x') es2 (p_sp x'.2.1)) := by
          rw [← h0, hun, if_neg]
          exact fun z => (Int.mul_eq_zero.mp z).elim (fun h => by omega) hnz
        rw [hfin] at hq'
        refine ⟨fun gw => hq' o ?_, fun gw => ⟨by obtain ⟨-, b1, b2⟩ := ho; exact ⟨by omega, by omega⟩, hq' (-o) ?_⟩⟩
        · have : O_w x' = 1 := by omega
          rw [this, Int.one_mul, ← this]
          exact ho
        · have : O_w x' = -1 := by omega
          have h9 := ho.neg
          rw [show O_w x' * v_oc (O_key (O_w x') es (p_sp x'.2.1)) (O_key (O_w x') es2 (p_sp x'.2.1)) = - v_oc (O_key (O_w x') es (p_sp x'.2.1)) (O_key (O_w x') es2 (p_sp x'.2.1)) by rw [this]; omega]
          exact h9
  exact m_X12_compareKeys hcR ⟨by omega, by omega⟩ ⟨by omega, by omega⟩ ⟨by omega, by omega⟩ fun _ => hlp cs [] rfl rfl
theorem e_sortLoops {d D : Nat} {c : Int} (hT : E_T m b ma be M0) (h34 : g_r M0 m 34 = some kr) (hkr : g_A M0 kr 1 800) (h19 : g_i M0 m 19 = ds.length) (hkk : E_kk (g_i M0 b) kr cs ds (fun j _ => j < ds.length) M0) (ht : e_tl (g_i M0 b) c (c + 4) D cs cs) (hc4 : cs.length ≤ 4) (hways : ∀ x ∈ cs, (O_w x = 1 ∨ O_w x = -1) ∧ p_plain x.2.1) (hl200 : ds.length ≤ 200) (hcR : g_InR c) (hq : ∀ M1, e_fr (fun y _ => y = ma ∨ y = be) M0 M1 → (∀ (i k : Nat), (O_ord cs ds)[i]? = some k → g_i M1 be i = g_i M0 be k) → Q 0 M1) : g_Run (d + 48) 356 187 [(0, .ref m), (1, g_n c), (2, g_n cs.length), (3, g_n 0)] [] M0 (g_qI Q) := by
  obtain ⟨n1, n2, n3, n4, n5, n6⟩ := hT.ne
  obtain ⟨hR, h22, h18, hma, hbe, -⟩ := id hT
  have nmk : kr ≠ ma := g_neAA hkr hma (by omega)
  obtain ⟨cc, hcc⟩ : ∃ cc, cc = O_ci cs ds := ⟨_, rfl⟩
  have hol : (O_ord cs ds).length = ds.length := by
    unfold O_ord
    rw [List.length_reverse, O_rv_len]
  have hm : ∀ {M : g_M}, e_fr (fun y _ => y = ma) M0 M → (∀ k, g_i M m k = g_i M0 m k) ∧ g_i M b = g_i M0 b ∧ (∀ k, g_i M kr k = g_i M0 kr k) ∧ ∀ k, g_i M be k = g_i M0 be k := fun f => ⟨fun k => f.2.1 m k n2, funext fun k => f.2.1 b k n4, fun k => f.2.1 kr k nmk, fun k => f.2.1 be k n6⟩
  -- the belt is written
  have h326 : ∀ (r i : Nat) (M : g_M), i + r = ds.length → e_fr (fun y _ => y = ma ∨ y = be) M0 M → (∀ (j k : Nat), (O_ord cs ds)[j]? = some k → g_i M ma j = g_i M0 be k) → (∀ (j k : Nat), j < i → (O_ord cs ds)[j]? = some k → g_i M be j = g_i M0 be k) → g_Run (d + 48) 356 326 [(0, .ref m), (1, g_n c), (2, g_n cs.length), (3, g_n i)] [] M (g_qI Q) := by
    intro r
    induction r with
    | zero =>
      intro i M hi f hv hb
      have h19' : g_i M m 19 = ds.length := by rw [f.2.1 m 19 fun z => z.elim n2 n3]; exact h19
      exact s_X12_sort_326 hcR ⟨by omega, by omega⟩ ⟨by omega, by omega⟩ fun _ => ⟨f.O hR.1, fun z => absurd z (by omega), fun _ => hq M f fun j k hj => hb j k (by have := (List.getElem?_eq_some_iff.mp hj).1; omega) hj⟩
    | succ r ih =>
      intro i M hi f hv hb
      have h19' : g_i M m 19 = ds.length := by rw [f.2.1 m 19 fun z => z.elim n2 n3]; exact h19
      refine s_X12_sort_326 hcR ⟨by omega, by omega⟩ ⟨by omega, by omega⟩ fun _ => ⟨f.O hR.1, fun _ => ⟨be, by rw [f.2.2]; exact h18, ma, by rw [f.2.2]; exact h22, _, f.A hma, ⟨by omega, by omega⟩, _, f.A hbe, ⟨by omega, by omega⟩, fun M12 e12 _ => ⟨⟨by omega, by omega⟩, ?_⟩⟩, fun z => absurd (by omega) z⟩
      subst e12
      have h9 := ih (i + 1) _ (by omega) (f.tr (e_fr.wi (a := be) (k := i) (g_i M ma i) (Or.inr rfl))) (fun j k hj => ?_) fun j k hj hjk => ?_
      · rwa [show ((i + 1 : Nat) : Int) = (i : Int) + 1 by omega] at h9
      · rw [g_i_wi, if_neg fun z => n6 z.1.symm]
        exact hv j k hj
      · rw [g_i_wi]
        by_cases hji : j = i
        · subst hji
          rw [if_pos ⟨rfl, rfl⟩]
          exact hv j k hjk
        · rw [if_neg (by omega)]
          exact hb j k (by omega) hjk
  have h293 : ∀ (r i : Nat) (M : g_M), i + r = ds.length → e_fr (fun y _ => y = ma) M0 M → (∀ (j k : Nat), (O_ord cs ds)[j]? = some k → g_i M ma j = if j < i then g_i M0 be k else k) → g_Run (d + 48) 356 293 [(0, .ref m), (1, g_n c), (2, g_n cs.length), (3, g_n i)] [] M (g_qI Q) := by
    intro r
    induction r with
    | zero =>
      intro i M hi f hv
      have h19' : g_i M m 19 = ds.length := by rw [(hm f).1]; exact h19
      exact s_X12_sort_293 hcR ⟨by omega, by omega⟩ ⟨by omega, by omega⟩ fun _ => ⟨f.O hR.1, fun z => absurd z (by omega), fun _ => h326 ds.length 0 M (by omega) (f.up fun _ _ z => Or.inl z) (fun j k hj => by rw [hv j k hj, if_pos (by have := (List.getElem?_eq_some_iff.mp hj).1; omega)]) fun j k hj => absurd hj (by omega)⟩
    | succ r ih =>
      intro i M hi f hv
      have h19' : g_i M m 19 = ds.length := by rw [(hm f).1]; exact h19
      obtain ⟨k, hk⟩ : ∃ k, (O_ord cs ds)[i]? = some k := ⟨_, List.getElem?_eq_getElem (by omega)⟩
      have hkl := O_rv_lt _ _ k (List.mem_reverse.mp (List.mem_of_getElem? hk))
      have hvi := hv i k hk
      rw [if_neg (by omega)] at hvi
      refine s_X12_sort_293 hcR ⟨by omega, by omega⟩ ⟨by omega, by omega⟩ fun _ => ⟨f.O hR.1, fun _ => ⟨ma, by rw [f.2.2]; exact h22, be, by rw [f.2.2]; exact h18, ma, by rw [f.2.2]; exact h22, _, f.A hma, ⟨by omega, by omega⟩, _, f.A hbe, ⟨by omega, by omega⟩, _, f.A hma, ⟨by omega, by omega⟩, fun M17 e17 _ => ⟨⟨by omega, by omega⟩, ?_⟩⟩, fun z => absurd (by omega) z⟩
      rw [hvi, (hm f).2.2.2] at e17
      subst e17
      have h9 := ih (i + 1) _ (by omega) (f.tr (e_fr.wi (a := ma) (k := i) (g_i M0 be k) rfl)) fun j k2 hj => ?_
      · rwa [show ((i + 1 : Nat) : Int) = (i : Int) + 1 by omega] at h9
      · rw [g_i_wi]
        by_cases hji : j = i
        · subst hji
          rw [if_pos ⟨rfl, rfl⟩, if_pos (by omega)]
          rw [hk] at hj
          cases hj
          rfl
        · rw [if_neg (by omega), hv j k2 hj]
          by_cases hlt : j < i
          · rw [if_pos hlt, if_pos (by omega)]
          · rw [if_neg hlt, if_neg (by omega)]
  have hend : ∀ M, e_fr (fun y _ => y = ma) M0 M → b_at (g_i M ma) 0 (O_il (O_ord cs ds)) → g_Run (d + 48) 356 293 [(0, .ref m), (1, g_n c), (2, g_n cs.length), (3, g_n 0)] [] M (g_qI Q) := fun M f hv => h293 ds.length 0 M (by omega) f fun j k hj => by
    rw [if_neg (by omega)]
    have := hv j k (by unfold O_il; rw [List.getElem?_map, hj]; rfl)
    rwa [show (0 : Int) + (j : Int) = j by omega] at this
  have h210 : ∀ (r i : Nat) (M : g_M), i + r = ds.length → 1 ≤ i → e_fr (fun y _ => y = ma) M0 M → b_at (g_i M ma) 0 (O_il (O_rv cc i).reverse) → (∀ j : Nat, i ≤ j → j < ds.length → g_i M ma j = j) → g_Run (d + 48) 356 210 [(0, .ref m), (1, g_n c), (2, g_n cs.length), (3, g_n i)] [] M (g_qI Q) := by
    intro r
    induction r with
    | zero =>
      intro i M hi h1 f hv _
      have h19' : g_i M m 19 = ds.length := by rw [(hm f).1]; exact h19
      exact s_X12_sort_210 hcR ⟨by omega, by omega⟩ ⟨by omega, by omega⟩ fun _ => ⟨f.O hR.1, fun z => absurd z (by omega), fun _ => hend M f (by unfold O_ord; rw [show ds.length = i by omega, ← hcc]; exact hv)⟩
    | succ r ih =>
      intro i M hi h1 f hv hid
      have h19' : g_i M m 19 = ds.length := by rw [(hm f).1]; exact h19
      have hnext : ∀ M2, e_fr (fun y _ => y = ma) M0 M2 → b_at (g_i M2 ma) 0 (O_il (O_ins cc i (O_rv cc i)).reverse) → (∀ j : Nat, i + 1 ≤ j → j < ds.length → g_i M2 ma j = j) → g_InR ((i : Int) + 1) ∧ g_Run (d + 48) 356 210 [(0, .ref m), (1, g_n c), (2, g_n cs.length), (3, g_n ((i : Int) + 1))] [] M2 (g_qI Q) := fun M2 f2 hv2 hi2 => by
        refine ⟨⟨by omega, by omega⟩, ?_⟩
        have h9 := ih (i + 1) M2 (by omega) (by omega) f2 hv2 hi2
        rwa [show ((i + 1 : Nat) : Int) = (i : Int) + 1 by omega] at h9
      have h229 : ∀ (R B : List Nat) (M2 : g_M), (∀ y ∈ R, y < i) → R.length + B.length = i → e_fr (fun y _ => y = ma) M0 M2 → b_at (g_i M2 ma) 0 (O_il R.reverse) → b_at (g_i M2 ma) (R.length + 1) (O_il B) → (∀ j : Nat, i + 1 ≤ j → j < ds.length → g_i M2 ma j = j) → (O_ins cc i (O_rv cc i)).reverse = (O_ins cc i R).reverse ++ B → g_Run (d + 48) 356 229 [(0, .ref m), (1, g_n c), (2, g_n cs.length), (3, g_n i), (4, g_n i), (5, g_n R.length)] [] M2 (g_qI Q) := by
        intro R
        induction R with
        | nil =>
          intro B M2 hRl hlen f2 hv1 hv2 hid2 he
          refine s_X12_sort_229 hcR ⟨by omega, by omega⟩ ⟨by omega, by omega⟩ ⟨by omega, by omega⟩ ⟨by omega, by omega⟩ fun _ => ⟨fun z => absurd z (by rw [List.length_nil]; omega), fun _ => ⟨f2.O hR.1, ma, by rw [f2.2.2]; exact h22, _, f2.A hma, ⟨by omega, by rw [List.length_nil]; omega⟩, fun M7 e7 _ => ?_⟩⟩
          subst e7
          refine hnext _ (f2.tr (e_fr.wi _ rfl)) ?_ fun j j1 j2 => ?_
          · rw [he, O_il_app]
            refine b_app.mpr ⟨b_cons.mpr ⟨?_, b_nil _ _⟩, b_at_keep (B := g_i M2 ma) ?_ fun k k1 k2 => ?_⟩
            · rw [g_i_wi, if_pos ⟨rfl, rfl⟩]
            · have h1 : (0 : Int) + ((O_il (O_ins cc i []).reverse).length : Nat) = (([] : List Nat).length : Int) + 1 := rfl
              rw [h1]
              exact hv2
            · rw [g_i_wi, if_neg]
              intro z
              have := z.2
              rw [show (O_il (O_ins cc i []).reverse).length = 1 from rfl] at k1
              rw [List.length_nil] at this
              omega
          · rw [g_i_wi, if_neg (by rw [List.length_nil]; omega)]
            exact hid2 j j1 j2
        | cons y R ihR =>
          intro B M2 hRl hlen f2 hv1 hv2 hid2 he
          rw [List.length_cons] at hlen
          have hyi := hRl y List.mem_cons_self
          have hl1 : (((y :: R).length : Nat) : Int) - 1 = R.length := by rw [List.length_cons]; omega
          have hl2 : (((y :: R).length : Nat) : Int) + -1 = R.length := by rw [List.length_cons]; omega
          rw [List.reverse_cons, O_il_app] at hv1
          obtain ⟨v1, v2⟩ := b_app.mp hv1
          have hvy : g_i M2 ma R.length = y := by
            have := (b_cons.mp v2).1
            rwa [O_il_len, List.length_reverse, show (0 : Int) + (R.length : Int) = R.length by omega] at this
          obtain ⟨-, hb2, hk2, -⟩ := hm f2
          refine s_X12_sort_229 hcR ⟨by omega, by omega⟩ ⟨by omega, by omega⟩ ⟨by omega, by omega⟩ ⟨by omega, by omega⟩ fun _ => ⟨fun _ => ⟨f2.O hR.1, ma, by rw [f2.2.2]; exact h22, ⟨by omega, by omega⟩, _, f2.A hma, ⟨by omega, by rw [List.length_cons]; omega⟩, ?_⟩, fun z => absurd (by rw [List.length_cons]; omega) z⟩
          rw [hl1, hvy]
          refine e_cmpKeys (d := d + 1) (D := D) (ds := ds) (cs := cs) (kr := kr) (f2.R hR) (by rw [f2.2.2]; exact h34) (f2.A hkr) (fun j t es x q1 q2 q3 => ?_) (by rw [hb2]; exact ht) hc4 hways hl200 (by omega) (by omega) hcR fun o ho => ?_
          · obtain ⟨u, u1, u2, u3⟩ := hkk j t es x q1 q2 q3
            exact ⟨u, by rw [hk2]; exact u1, by rw [hb2]; exact u2, u3⟩
          intro _ _ _
          have hsym : O_ci cs ds y i = - O_ci cs ds i y := O_kcmp_sym _ _
          obtain ⟨o1, -⟩ := ho.sgn
          rw [← hcc] at hsym o1
          refine ⟨fun g0 => ⟨ma, by rw [f2.2.2]; exact h22, ma, by rw [f2.2.2]; exact h22, ⟨by omega, by omega⟩, _, f2.A hma, ⟨by omega, by omega⟩, _, f2.A hma, ⟨by omega, by rw [List.length_cons]; omega⟩, fun M45 e45 _ => ?_⟩, fun g0 => ⟨ma, by rw [f2.2.2]; exact h22, _, f2.A hma, ⟨by omega, by rw [List.length_cons]; omega⟩, fun M29 e29 _ => ?_⟩⟩
          · have hgo : 0 < cc y i := by have := o1.mp g0; omega
            rw [hvy] at e45
            subst e45
            rw [hl2]
            refine ⟨⟨by omega, by omega⟩, ihR (y :: B) _ (fun z hz => hRl z (List.mem_cons_of_mem _ hz)) (by rw [List.length_cons]; omega) (f2.tr (e_fr.wi _ rfl)) (b_at_keep v1 fun k k1 k2 => ?_) (b_cons.mpr ⟨?_, b_at_keep (B := g_i M2 ma) (x := O_il B) ?_ fun k k1 k2 => ?_⟩) (fun j j1 j2 => ?_) ?_⟩
            · rw [O_il_len, List.length_reverse] at k2
              rw [g_i_wi, if_neg]
              intro z
              have := z.2
              rw [List.length_cons] at this
              omega
            · rw [g_i_wi, if_pos ⟨rfl, by rw [List.length_cons]; omega⟩]
            · rw [List.length_cons] at hv2
              rwa [show (R.length : Int) + 1 + 1 = ((R.length + 1 : Nat) : Int) + 1 by omega]
            · rw [g_i_wi, if_neg]
              intro z
              have := z.2
              rw [List.length_cons] at this
              omega
            · rw [g_i_wi, if_neg (by rw [List.length_cons]; omega)]
              exact hid2 j j1 j2
            · rw [he, show O_ins cc i (y :: R) = if 0 < cc y i then y :: O_ins cc i R else i :: y :: R from rfl, if_pos hgo, List.reverse_cons, List.append_assoc]
              rfl
          · have hgo : ¬ 0 < cc y i := fun z => g0 (o1.mpr (by omega))
            subst e29
            refine hnext _ (f2.tr (e_fr.wi _ rfl)) ?_ fun j j1 j2 => ?_
            · rw [he, show O_ins cc i (y :: R) = if 0 < cc y i then y :: O_ins cc i R else i :: y :: R from rfl, if_neg hgo, List.reverse_cons, List.append_assoc, O_il_app]
              have hlr : (O_il (y :: R).reverse).length = R.length + 1 := by rw [O_il_len, List.length_reverse, List.length_cons]
              refine b_app.mpr ⟨b_at_keep (by rw [List.reverse_cons, O_il_app]; exact hv1) fun k k1 k2 => ?_, ?_⟩
              · rw [hlr] at k2
                rw [g_i_wi, if_neg]
                intro z
                have := z.2
                rw [List.length_cons] at this
                omega
              · rw [hlr]
                refine b_cons.mpr ⟨?_, b_at_keep (B := g_i M2 ma) (x := O_il B) ?_ fun k k1 k2 => ?_⟩
                · rw [g_i_wi, if_pos ⟨rfl, by rw [List.length_cons]; omega⟩]
                · rw [List.length_cons] at hv2
                  rwa [show (0 : Int) + ((R.length + 1 : Nat) : Int) + 1 = ((R.length + 1 : Nat) : Int) + 1 by omega]
                · rw [g_i_wi, if_neg]
                  intro z
                  have := z.2
                  rw [List.length_cons] at this
                  omega
            · rw [g_i_wi, if_neg (by rw [List.length_cons]; omega)]
              exact hid2 j j1 j2
      refine s_X12_sort_210 hcR ⟨by omega, by omega⟩ ⟨by omega, by omega⟩ fun _ => ⟨f.O hR.1, fun _ => ⟨ma, by rw [f.2.2]; exact h22, _, f.A hma, ⟨by omega, by omega⟩, ?_⟩, fun z => absurd (by omega) z⟩
      rw [hid i (Nat.le_refl _) (by omega)]
      have hrl := O_rv_len cc i
      have h9 := h229 (O_rv cc i) [] M (O_rv_lt cc i) (by rw [hrl]; rfl) f hv (b_nil _ _) (fun j j1 j2 => hid j (by omega) j2) (List.append_nil _).symm
      rwa [hrl] at h9
  have h187 : ∀ (r i : Nat) (M : g_M), i + r = ds.length → e_fr (fun y _ => y = ma) M0 M → (∀ j : Nat, j < i → g_i M ma j = j) → g_Run (d + 48) 356 187 [(0, .ref m), (1, g_n c), (2, g_n cs.length), (3, g_n i)] [] M (g_qI Q) := by
    intro r
    induction r with
    | zero =>
      intro i M hi f hv
      have h19' : g_i M m 19 = ds.length := by rw [(hm f).1]; exact h19
      refine s_X12_sort_187 hcR ⟨by omega, by omega⟩ ⟨by omega, by omega⟩ fun _ => ⟨f.O hR.1, fun z => absurd z (by omega), fun _ => ?_⟩
      by_cases h0 : ds.length = 0
      · refine s_X12_sort_210 hcR ⟨by omega, by omega⟩ ⟨by decide, by decide⟩ fun _ => ⟨f.O hR.1, fun z => absurd z (by omega), fun _ => hend M f ?_⟩
        rw [List.length_eq_zero_iff.mp (by omega : (O_ord cs ds).length = 0)]
        exact b_nil _ _
      · exact h210 (ds.length - 1) 1 M (by omega) (by omega) f (b_cons.mpr ⟨hv 0 (by omega), b_nil _ _⟩) fun j j1 j2 => hv j (by omega)
    | succ r ih =>
      intro i M hi f hv
      have h19' : g_i M m 19 = ds.length := by rw [(hm f).1]; exact h19
      refine s_X12_sort_187 hcR ⟨by omega, by omega⟩ ⟨by omega, by omega⟩ fun _ => ⟨f.O hR.1, fun _ => ⟨ma, by rw [f.2.2]; exact h22, _, f.A hma, ⟨by omega, by omega⟩, fun M7 e7 _ => ⟨⟨by omega, by omega⟩, ?_⟩⟩, fun z => absurd (by omega) z⟩
      subst e7
      have h9 := ih (i + 1) _ (by omega) (f.tr (e_fr.wi (a := ma) (k := i) (i : Int) rfl)) fun j hj => ?_
      · rwa [show ((i + 1 : Nat) : Int) = (i : Int) + 1 by omega] at h9
      · rw [g_i_wi]
        by_cases hji : j = i
        · subst hji
          rw [if_pos ⟨rfl, rfl⟩]
        · rw [if_neg (by omega)]
          exact hv j (by omega)
  exact h187 ds.length 0 M0 (by omega) (e_fr.rf _ _) fun j hj => absurd hj (by omega)
end ESORT
