/-! CHANGES: the class comes to an element -/
section COMES
variable {d o b po pf pt ch wo : Nat} {F : Int → Int} {M M1 : g_M} {c : List h_F} {e p : b_E} {es l t mid mid2 : List b_E} {Q : Int → g_M → Prop}
theorem c_digits {n : Nat} (hn : n < 10000) (h : Q (b_dg n).length M) : g_Call (d + 1) 31 [g_n n] M (g_qI Q) := by
  have h1 : (b_dg n).length = if n < 10 then 1 else if n < 100 then 2 else if n < 1000 then 3 else 4 := by
    unfold b_dg
    split
    · exact u_digs_len _ _ _
    · split
      · exact u_digs_len _ _ _
      · split
        · exact u_digs_len _ _ _
        · exact u_digs_len _ _ _
  rw [h1] at h
  refine m_X1_digits ⟨by omega, by omega⟩ fun _ => ⟨fun g => ?_, fun g => ⟨fun g2 => ?_, fun g2 => ⟨fun g3 => ?_, fun g3 => ⟨fun g4 => ?_, fun g => absurd (by omega) g⟩⟩⟩⟩
  · rwa [if_pos (by omega)] at h
  · rwa [if_neg (by omega), if_pos (by omega)] at h
  · rwa [if_neg (by omega), if_neg (by omega), if_pos (by omega)] at h
  · rwa [if_neg (by omega), if_neg (by omega), if_neg (by omega)] at h
theorem c_eq30 {pv q N : Int} {x v : b_E} {D : Nat} (hA : g_A M b 0 N) (hN : N ≤ 1000000000) (hx : b_st (g_i M b) N q D x.1 x.2.1 x.2.2) (hD : D ≤ 30) (hl : x.2.2.length ≤ 190000) (hv : b_st (g_i M b) N pv 20 v.1 v.2.1 v.2.2) (h : Q (v_cmp 61 x.1 x.2.2 v.1 v.2.2) M) : g_Call (d + 64) 121 [.ref b, g_n q, .ref b, g_n pv, g_n 0] M (g_qI Q) :=
  c_compare 30 (F := 60) (d := d) hA hA hN hN (by omega) (hx.le hD) (hv.le (by decide)) (by decide) (by decide) (by decide) h
/-- after a link: into the element at the hole -/
def X_Lk (F : Int → Int) (o b po pf pt ch wo : Nat) (c : List h_F) (e : b_E) (M : g_M) : Prop := X_O o b po pf pt ch wo M ∧ (∀ k, k < 163608 → g_i M b k = F k) ∧ ∀ l mid t, e.2.2 = b_doc (l ++ mid ++ t) → X_Sh F o b po pf pt ch wo (c ++ [(e.1, e.2.1, l, t)]) (b_ser mid).length M ∧ b_at (g_i M b) (h_at 163608 (c ++ [(e.1, e.2.1, l, t)])) (b_ser mid)
theorem c_lk {Qv : g_M → Prop} (hSt : X_St F o b po pf pt ch wo c e M) (h1 : b_nz e.2.1) (hcl : c.length ≤ 9) (hR : h_hs (b_el e.1 e.2.1 e.2.2).length c ≤ 80000) (hq : ∀ M2, e_fr (X_CL o b ch wo) M M2 → g_i M2 b = g_i M b → g_i M2 o 6 = g_i M o 6 → X_Lk F o b po pf pt ch wo c e M2 → Qv M2) : g_Call (d + 1) 25 [.ref o, g_n (h_at 163608 c)] M (g_qV Qv) := by
  obtain ⟨hSh, hat⟩ := hSt
  obtain ⟨hO, hF, hok, hln, hZ, h5, h4, hch⟩ := id hSh
  obtain ⟨n1, n2, n3, n4, n5, n6⟩ := hO.ne
  have hin := h_at_in (b_el e.1 e.2.1 e.2.2).length c 163608
  refine c_link (f := (0, [], [], [])) hO (by omega) h4 hch (by omega) fun M2 f2 e4 ech => ?_
  have hb : g_i M2 b = g_i M b := funext fun k => f2.2.1 b k fun z => by
    rcases z with ⟨z, -⟩ | z
    · exact n1 z.symm
    · exact n4 z.symm
  have ho : ∀ k, k ≠ 4 → g_i M2 o k = g_i M o k := fun k hk => f2.2.1 o k fun z => by
    rcases z with ⟨-, z⟩ | z
    · exact hk z
    · exact n5 z.symm
  have hO2 : X_O o b po pf pt ch wo M2 := hO.fr f2
  refine hq M2 (f2.up fun y k hy => ?_) hb (ho 6 (by decide)) ⟨hO2, by rw [hb]; exact hF, fun l mid t he => ?_⟩
  · rcases hy with ⟨g1, g2⟩ | g
    · exact Or.inl ⟨g1, Or.inl g2⟩
    · exact Or.inr (Or.inr (Or.inr g))
  · have hpair := (h_in (B := g_i M2 b) (c := c) (f := (e.1, e.2.1, l, t)) (p := 163608) (mid := mid)).mp (by
      show h_Z _ (b_el e.1 e.2.1 (b_doc (l ++ mid ++ t))).length _ _ ∧ b_at _ _ (b_el e.1 e.2.1 (b_doc (l ++ mid ++ t)))
      rw [← he, hb]
      exact ⟨hZ, hat⟩)
    refine ⟨⟨hO2, by rw [hb]; exact hF, fun f hf => ?_, by rw [List.length_append, List.length_singleton]; omega, hpair.1, ?_, ?_, ?_⟩, hpair.2⟩
    · rcases List.mem_append.mp hf with hf | hf
      · exact hok f hf
      · have := List.mem_singleton.mp hf
        subst this
        exact h1
    · rw [ho 5 (by decide), h5, h_hs_snoc, h_hs_one]
      show (163608 : Int) + ((h_hs (b_el e.1 e.2.1 e.2.2).length c : Nat) : Int) = 163608 + ((h_hs (b_el e.1 e.2.1 (b_doc (l ++ mid ++ t))).length c : Nat) : Int)
      rw [← he]
    · rw [e4, List.length_append, List.length_append]
      rfl
    · rw [h_ch_snoc] at ech ⊢
      exact ech
/-- what stands then -/
def X_aft (o b : Nat) (c : List h_F) (e : b_E) (M : g_M) : Prop := h_Z (g_i M b) (b_el e.1 e.2.1 e.2.2).length 163608 c ∧ b_at (g_i M b) (h_at 163608 c) (b_el e.1 e.2.1 e.2.2) ∧ g_i M o 5 = 163608 + h_hs (b_el e.1 e.2.1 e.2.2).length c
theorem X_St.aft (h : X_St F o b po pf pt ch wo c e M) : X_aft o b c e M := ⟨h.1.2.2.2.2.1, h.2, h.1.2.2.2.2.2.1⟩
/-- out of an element -/
theorem X_out {k : Int} {nm : List Int} (hSh : X_Sh F o b po pf pt ch wo (c ++ [(k, nm, l, t)]) (b_ser mid).length M) (hat : b_at (g_i M b) (h_at 163608 (c ++ [(k, nm, l, t)])) (b_ser mid)) : X_aft o b c (k, nm, b_doc (l ++ mid ++ t)) M := by
  obtain ⟨hO, hF, hok, hln, hZ, h5, h4, hch⟩ := hSh
  obtain ⟨a1, a2⟩ := (h_in (B := g_i M b) (c := c) (f := (k, nm, l, t)) (p := 163608) (mid := mid)).mpr ⟨hZ, hat⟩
  refine ⟨a1, a2, ?_⟩
  rw [h5, h_hs_snoc, h_hs_one]
theorem c_comesTo {op pp : Int} {x : List Int} (hSt : X_St F o b po pf pt ch wo c e M) (hcl : c.length ≤ 9) (h1 : b_nz e.2.1) (h2 : b_gv 30 e.1 e.2.2) (hp : b_st F 100000 pp 20 p.1 p.2.1 p.2.2) (hop : op = 1 ∨ op = 3 ∨ op = 4 ∨ op = 6) (hpn : op = 3 → p.1 = 16 ∨ p.1 = 18) (hmx : h_hs (b_el e.1 e.2.1 e.2.2).length c + p.2.2.length + 20 ≤ 15000) (hq : ∀ M1, e_fr (X_CL o b ch wo) M M1 → ((X_last op p x (some e)).1 = 0 → X_aft o b c (X_last op p x (some e)).2 M1 ∧ g_i M1 o 6 = (if (X_last op p x (some e)).2 = e then g_i M o 6 else 1)) → Q (X_last op p x (some e)).1 M1) : g_Call (d + 70) 30 [.ref o, g_n op, g_n pp, g_n (h_at 163608 c)] M (g_qI Q) := by
  have hs := hSt.st h1 h2 (by omega)
  obtain ⟨hO, hF, hok, hln, hZ, h5, h4, hch⟩ := id hSt.1
  obtain ⟨⟨o1, o2, o3, o4, o5⟩, hP, och, ob, ow, owb⟩ := id hO
  have hp' : b_st (g_i M b) 246408 pp 20 p.1 p.2.1 p.2.2 := hp.of hF
  obtain ⟨sv1, sv2, sv3, sv4⟩ := hs.val
  have hel := b_el_len e.1 e.2.1 e.2.2
  have hpl := b_el_len p.1 p.2.1 p.2.2
  have hin := h_at_in (b_el e.1 e.2.1 e.2.2).length c 163608
  have hge := h_at_ge c 163608
  have hpR := hp.R (by decide)
  have hsR := hs.R (by decide)
  have hX : X_last op p x (some e) = if op = 1 then (0, (p.1, e.2.1, p.2.2)) else if op = 3 then X_inc e p else if e.1 = 4 then
      (if (op == 6 && (b_ch e.2.2).any fun y => F_eq y p) = true then (0, e) else (0, (4, e.2.1, b_doc (b_ch e.2.2 ++ [(p.1, b_dg (b_ch e.2.2).length, p.2.2)]))))
    else (7, e) := rfl
  refine m_X1_comesTo ⟨by omega, by omega⟩ hpR hsR fun _ => ⟨fun g => ⟨o1, ?_⟩, fun n1 => ⟨fun g => ⟨o1, b, o2, c_isNum ob ⟨by decide, by decide⟩ ⟨by omega, by omega⟩ ?_⟩, fun n3 => ⟨o1, b, o2, c_kd2 ob (by decide) hs fun _ _ _ => ⟨fun g => ⟨b, o2, c_fi2 ob (by decide) hs fun _ _ _ => ?_⟩, fun g => ?_⟩⟩⟩⟩
  · rw [hX, if_pos g] at hq
    refine c_replace hSt h1 h2 hp (by omega) fun M1 f1 hS1 h61 => ?_
    intro _ _ _
    exact hq M1 (X_SL.cl f1) fun _ => ⟨hS1.aft, h61⟩
  · rw [b_kd_in (by omega) (by omega), sv4]
    rw [hX, if_neg n1, if_pos g] at hq
    intro _ _ _
    by_cases hk : e.1 = 16 ∨ e.1 = 18
    · rw [if_pos hk]
      refine ⟨fun g => absurd g (by decide), fun _ => c_add hSt h1 h2 hp hk (hpn g) (by omega) fun M1 f1 h61 => ?_⟩
      intro _ _ _
      exact hq M1 (X_SL.cl f1) fun z => ⟨(h61 z).1.aft, (h61 z).2⟩
    · rw [if_neg hk]
      refine ⟨fun _ => ?_, fun g => absurd rfl g⟩
      have hx : X_inc e p = (7, e) := by
        unfold X_inc
        rw [if_neg hk]
      rw [hx] at hq
      exact hq M (e_fr.rf _ _) fun z => absurd z (show ¬ (7 : Int) = 0 by decide)
  · rw [hX, if_neg n1, if_neg n3, if_pos g] at hq
    obtain ⟨D1, es, eD, e2, e3, e4, e5, e6, e7⟩ := b_gv_doc h2 (Or.inr g)
    rw [e7] at hq
    have hdl := congrArg List.length e2
    rw [b_doc_len] at hdl
    have hmany := b_ser_many es
    have hsts : b_sts (g_i M b) 246408 (h_at 163608 c + 6 + e.2.1.length) D1 es := by
      have h9 := hs.1
      have h8 := hs.2.2.2.2
      rw [e2] at h9 h8
      exact b_st.sts h9 e5 hs.2.2.2.1 h8
    have h136 : ¬ (op == 6 && es.any fun y => F_eq y p) = true → ∀ w : Int, g_InR w → g_Run (d + 69) 30 136 [(0, .ref o), (1, g_n op), (2, g_n pp), (3, g_n (h_at 163608 c)), (4, g_n es.length), (5, g_n (h_at 163608 c + 6 + e.2.1.length + (b_ser es).length)), (6, g_n w)] [] M (g_qI Q) := by
      intro hno w hw
      rw [if_neg hno] at hq
      have hdg := b_dg_len es.length
      refine s_X1_comesTo_136 ⟨by omega, by omega⟩ hpR hsR ⟨by omega, by omega⟩ ⟨by omega, by omega⟩ hw fun _ => ⟨o1, c_lk hSt h1 hcl (by omega) fun M2 f2 eb2 e62 hLk => ?_⟩
      intro _ _
      obtain ⟨hO2, hF2, hin2⟩ := hLk
      obtain ⟨⟨t1, t2, t3, t4, t5⟩, tP, tch, tb, tw, twb⟩ := id hO2
      obtain ⟨hSh2, -⟩ := hin2 es [] [] (by rw [e2]; simp)
      have hp2 : b_st (g_i M2 b) 246408 pp 20 p.1 p.2.1 p.2.2 := hp.of hF2
      refine ⟨b, t2, c_nx2 tb (by decide) hp2 fun _ _ _ => ⟨b, t2, c_va2 tb (by decide) hp2 fun _ _ _ => ⟨⟨by omega, by omega⟩, c_digits (by omega) fun _ _ _ => ⟨⟨by omega, by omega⟩, ⟨by omega, by omega⟩, ?_⟩⟩⟩⟩
      have hn : ∃ n : Nat, n = (b_el p.1 (b_dg es.length) p.2.2).length := ⟨_, rfl⟩
      obtain ⟨n, hn⟩ := hn
      have hn2 := hn
      rw [b_el_len] at hn2
      rw [show ((b_dg es.length).length : Int) + 2 + (pp + (b_el p.1 p.2.1 p.2.2).length - (pp + 2 + p.2.1.length)) = (n : Int) by omega]
      have hat : h_at 163608 (c ++ [(e.1, e.2.1, es, [])]) = h_at 163608 c + 6 + e.2.1.length + (b_ser es).length := by
        rw [h_at_snoc]
        rfl
      have hhs0 : h_hs (b_ser []).length (c ++ [(e.1, e.2.1, es, [])]) = h_hs (b_el e.1 e.2.1 e.2.2).length c := by
        rw [h_hs_snoc, h_hs_one, e2]
        simp
      obtain ⟨-, -, hok2, hln2, hZ2, h52, h42, hch2⟩ := id hSh2
      have hh2 : h_hs n (c ++ [(e.1, e.2.1, es, [])]) = h_hs (b_ser []).length (c ++ [(e.1, e.2.1, es, [])]) + n := by
        have hz := h_hs_add 0 n (c ++ [(e.1, e.2.1, es, [])])
        rw [Nat.zero_add] at hz
        exact hz
      have hs0 : (b_ser []).length = 0 := rfl
      rw [← hat]
      refine c_splice (h2 := n) hO2 hok2 hln2 hZ2 h42 hch2 h52 (Int.le_refl _) (by decide) (by omega) (by omega) (by omega) (by omega) (by omega) fun M3 f3 hZ3 e53 e63 _ _ W3 => ?_
      intro _ _ _
      have hSh3 := hSh2.cl f3 hZ3 e53
      obtain ⟨⟨⟨q1, q2, -, -, q5⟩, -, -, qb, qw, -⟩, qF, -⟩ := id hSh3
      have hpk := b_vs_pos (b_gv_vs hp.2.2.1)
      refine ⟨fun g => absurd g (by decide), fun _ => ⟨wo, q5, b, q2, c_kd2 qb (by decide) (b_st.of hp qF) fun _ _ _ => ⟨qw, c_item W3 (by omega) (by omega) (by omega) fun M4 f4 W4 => ?_⟩⟩⟩
      intro _ _
      obtain ⟨hSh4, f4'⟩ := hSh3.wr2 f4 (Int.le_refl _) (Int.le_refl _)
      obtain ⟨⟨⟨u1, u2, -, -, u5⟩, -, -, ub, uw, -⟩, uF, -⟩ := id hSh4
      refine ⟨wo, u5, b, u2, uw, c_outVal W4 ub (by decide) (hp.of uF) fun M5 f5 W5 => ?_⟩
      intro _ _
      obtain ⟨hSh5, f5'⟩ := hSh4.wr2 f5 (Int.le_refl _) (Int.le_refl _)
      have ex : [] ++ (p.1 :: (b_dg es.length ++ [0])) ++ p.2.2 = b_ser [(p.1, b_dg es.length, p.2.2)] := by
        simp [b_ser, b_el]
      rw [ex] at W5
      have hnb : n = (b_ser [(p.1, b_dg es.length, p.2.2)]).length := by
        rw [b_ser_one, hn2]
      rw [hnb] at W5 hSh5
      have hout := X_out hSh5 (c_Wr.hole (wo := wo) W5)
      rw [List.append_nil, g] at hout
      refine hq M5 ((f2.tr (X_SL.cl f3)).tr (X_SL.cl (f4'.tr f5'))) fun _ => ⟨hout, ?_⟩
      rw [X_6 hSh4 f5, X_6 hSh3 f4, e63, if_neg fun z => ?_]
      have hz := congrArg (fun w : b_E => w.2.2.length) z
      have hz2 : (b_doc (es ++ [(p.1, b_dg es.length, p.2.2)])).length = e.2.2.length := hz
      rw [b_doc_len, b_ser_app, List.length_append, b_ser_one] at hz2
      omega
    have hloop : ∀ (rest : List b_E) (j : Nat) (q : Int), b_sts (g_i M b) 246408 q D1 rest → j + rest.length = es.length → q + (b_ser rest).length = h_at 163608 c + 6 + e.2.1.length + (b_ser es).length → h_at 163608 c ≤ q → ((op == 6 && rest.any fun y => F_eq y p) = true ↔ (op == 6 && es.any fun y => F_eq y p) = true) → g_Run (d + 69) 30 71 [(0, .ref o), (1, g_n op), (2, g_n pp), (3, g_n (h_at 163608 c)), (4, g_n j), (5, g_n q), (6, g_n j)] [] M (g_qI Q) := by
      intro rest
      induction rest with
      | nil =>
        intro j q h1 h2 h3 h3b h4
        rw [List.length_nil, Nat.add_zero] at h2
        have h3' : q = h_at 163608 c + 6 + e.2.1.length + (b_ser es).length := by
          rw [← h3]
          show q = q + (0 : Nat)
          omega
        subst h2
        subst h3'
        refine s_X1_comesTo_71 ⟨by omega, by omega⟩ hpR hsR ⟨by omega, by omega⟩ ⟨by omega, by omega⟩ ⟨by omega, by omega⟩ fun _ => ⟨fun _ => ⟨o1, b, o2, c_kdE ob (by decide) h1 fun _ _ _ => ⟨fun _ => h136 ?_ _ ⟨by omega, by omega⟩, fun g => absurd rfl g⟩⟩, fun g => absurd (by omega) g⟩
        rw [← h4]
        simp
      | cons f rest ih =>
        intro j q h1 h2 h3 h3b h4
        obtain ⟨hf, hr⟩ := h1.cons
        rw [List.length_cons] at h2
        have hsl := b_ser_len f rest
        have hfl := b_el_len f.1 f.2.1 f.2.2
        have hfk := b_vs_pos (b_gv_vs hf.2.2.1)
        have hnext : (op == 6 && F_eq f p) = false → g_Run (d + 69) 30 71 [(0, .ref o), (1, g_n op), (2, g_n pp), (3, g_n (h_at 163608 c)), (4, g_n ((j : Int) + 1)), (5, g_n (q + (b_el f.1 f.2.1 f.2.2).length)), (6, g_n ((j : Int) + 1))] [] M (g_qI Q) := fun hff => ih (j + 1) _ hr (by omega) (by omega) (by omega) (by
          rw [← h4, List.any_cons]
          cases ho6 : (op == 6)
          · simp
          · rw [ho6] at hff
            simp only [Bool.true_and] at hff ⊢
            rw [hff]
            simp)
        have hqR : g_InR q := ⟨by omega, by omega⟩
        have hnR : g_InR (q + (b_el f.1 f.2.1 f.2.2).length) := ⟨by omega, by omega⟩
        refine s_X1_comesTo_71 ⟨by omega, by omega⟩ hpR hsR ⟨by omega, by omega⟩ hqR ⟨by omega, by omega⟩ fun _ => ⟨fun _ => ⟨o1, b, o2, c_kd2 ob (by decide) hf fun _ _ _ => ⟨fun g => absurd g (by omega), fun _ => ⟨fun g6 => ⟨b, o2, b, o2, ?_⟩, fun g6 => ⟨⟨by omega, by omega⟩, b, o2, c_nx2 ob (by decide) hf fun _ _ _ => ⟨⟨by omega, by omega⟩, hnext (by rw [show (op == 6) = false from beq_false_of_ne g6]; rfl)⟩⟩⟩⟩⟩, fun g => absurd (by omega) g⟩
        refine c_eq30 (d := d + 5) (x := f) (v := p) ob (by decide) hf (by omega) (by omega) hp' ?_
        intro _ _ _
        refine ⟨fun g0 => ?_, fun g0 => ⟨⟨by omega, by omega⟩, b, o2, c_nx2 ob (by decide) hf fun _ _ _ => ⟨⟨by omega, by omega⟩, hnext ?_⟩⟩⟩
        · have hfe : F_eq f p = true := decide_eq_true g0
          have hany : (op == 6 && es.any fun y => F_eq y p) = true := by
            rw [← h4, List.any_cons, hfe, g6]
            rfl
          rw [if_pos hany] at hq
          exact hq M (e_fr.rf _ _) fun _ => ⟨hSt.aft, by rw [if_pos rfl]⟩
        · have hfe : F_eq f p = false := decide_eq_false g0
          rw [hfe, Bool.and_false]
    exact hloop es 0 _ hsts (by omega) rfl (by omega) Iff.rfl
  · rw [hX, if_neg n1, if_neg n3, if_neg g] at hq
    exact hq M (e_fr.rf _ _) fun z => absurd z (show ¬ (7 : Int) = 0 by decide)
end COMES
