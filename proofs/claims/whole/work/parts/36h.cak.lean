/-! WHAT A REQUEST DOES: the class is asked -/
noncomputable def W_es (F : Int → Int) (n : Int) : List b_E := b_ch (b_sub F (r_doc F 16 0 n false).2.2.toNat 0)
/-- the answer and the state after a request of n bytes F -/
noncomputable def W_ask (F : Int → Int) (n : Int) (S : W_S) : List Int × W_S := if (r_doc F 16 0 n false).1 = 0 then (if Q_rq 8 (W_es F n) = -1 then (match W_es F n with
  | h :: s :: r => (W_ans (W_do 8 (8 + (b_el h.1 h.2.1 h.2.2).length + (b_el s.1 s.2.1 s.2.2).length) (W_w s) h (r.head?.getD (0, [], [])) S), (W_do 8 (8 + (b_el h.1 h.2.1 h.2.2).length + (b_el s.1 s.2.1 s.2.2).length) (W_w s) h (r.head?.getD (0, [], [])) S).2.2)
  | _ => ([], S)) else (A_flt 9 (Q_rq 8 (W_es F n) - 4), S)) else (A_flt (r_doc F 16 0 n false).1 (r_doc F 16 0 n false).2.1, S)
theorem W_ask_s {F : Int → Int} {n : Int} {S : W_S} {h s : b_E} {r : List b_E} (h0 : (r_doc F 16 0 n false).1 = 0) (hq : Q_rq 8 (W_es F n) = -1) (he : W_es F n = h :: s :: r) : W_ask F n S = (W_ans (W_do 8 (8 + (b_el h.1 h.2.1 h.2.2).length + (b_el s.1 s.2.1 s.2.2).length) (W_w s) h (r.head?.getD (0, [], [])) S), (W_do 8 (8 + (b_el h.1 h.2.1 h.2.2).length + (b_el s.1 s.2.1 s.2.2).length) (W_w s) h (r.head?.getD (0, [], [])) S).2.2) := by
  unfold W_ask
  rw [if_pos h0, if_pos hq, he]
theorem Q_r3_R (h : b_E) (q : Int) (r : List b_E) : Q_r3 h q r = -1 ∨ q ≤ Q_r3 h q r := by
  unfold Q_r3
  by_cases g : Q_op h.2.1 = 4
  · rw [if_pos g]
    cases r with
    | nil => exact Or.inr (Int.le_refl q)
    | cons t r =>
      show (if t.1 = 3 ∧ t.2.1 = b_tx 11 then Q_nx (q + (b_el t.1 t.2.1 t.2.2).length) r else q) = -1 ∨ q ≤ (if t.1 = 3 ∧ t.2.1 = b_tx 11 then Q_nx (q + (b_el t.1 t.2.1 t.2.2).length) r else q)
      split
      · rcases Q_nx_R (q + (b_el t.1 t.2.1 t.2.2).length) r with e | e
        · exact Or.inl e
        · exact Or.inr (by omega)
      · exact Or.inr (Int.le_refl q)
  · rw [if_neg g]
    by_cases g6 : Q_op h.2.1 = 6
    · rw [if_pos g6]
      cases r with
      | nil => exact Or.inr (Int.le_refl q)
      | cons t r =>
        show (if Q_dn q h t = -1 then Q_nx (q + (b_el t.1 t.2.1 t.2.2).length) r else Q_dn q h t) = -1 ∨ q ≤ (if Q_dn q h t = -1 then Q_nx (q + (b_el t.1 t.2.1 t.2.2).length) r else Q_dn q h t)
        split
        · rcases Q_nx_R (q + (b_el t.1 t.2.1 t.2.2).length) r with e | e
          · exact Or.inl e
          · exact Or.inr (by omega)
        · exact Q_dn_R q h t
    · rw [if_neg g6]
      exact Q_nx_R q r
theorem Q_rq_lo (q : Int) (es : List b_E) : Q_rq q es = -1 ∨ q ≤ Q_rq q es := by
  cases es with
  | nil => exact Or.inr (Int.le_refl q)
  | cons h r =>
    rw [Q_rq_c]
    split
    · exact Or.inr (Int.le_refl q)
    · split
      · cases r with
        | nil => exact Or.inr (by show q ≤ q + ((b_el h.1 h.2.1 h.2.2).length : Int); omega)
        | cons s r =>
          have e1 : Q_r2 h (q + (b_el h.1 h.2.1 h.2.2).length) (s :: r) = @ite _ (Q_sh s) (Classical.propDecidable _) (Q_r3 h (q + (b_el h.1 h.2.1 h.2.2).length + (b_el s.1 s.2.1 s.2.2).length) r) (q + (b_el h.1 h.2.1 h.2.2).length) := rfl
          rw [e1]
          split
          · rcases Q_r3_R h (q + (b_el h.1 h.2.1 h.2.2).length + (b_el s.1 s.2.1 s.2.2).length) r with e | e
            · exact Or.inl e
            · exact Or.inr (by omega)
          · exact Or.inr (by omega)
      · exact Q_hd_R q h
theorem c_Wr.fl {ι : Nat → Nat} {κ : Nat → Nat → Nat} {al sz : Nat → Nat × Nat} {cB eB : Int} {st : Nat → I_T} {D : Nat → List (Int × List b_E)} {gv : Nat → Int} {M : g_M} {u : List Int} {a b : Int} (hW : c_Wr (ι 3) (ι 4) 8000 0 8000 u M) (H : C_H ι κ al sz cB eB st D gv M) : c_Wr (ι 3) (ι 4) 8000 0 8000 u (g_wi (g_wi M (ι 0) 17 a) (ι 0) 18 b) := by
  have f : e_fr (fun y _ => y = ι 0) M (g_wi (g_wi M (ι 0) 17 a) (ι 0) 18 b) := (e_fr.wi _ rfl).tr (e_fr.wi _ rfl)
  exact hW.sm (fun a c hc => by rw [f.sh]; exact hc) ⟨funext fun k => f.2.1 _ _ (H.2.1.ne (by decide) (by decide) (by decide)), funext fun k => f.2.2 _ _⟩ (funext fun k => f.2.1 _ _ (H.2.1.ne (by decide) (by decide) (by decide)))
section CAK
variable {d : Nat} {ι : Nat → Nat} {κ : Nat → Nat → Nat} {al sz : Nat → Nat × Nat} {cB eB : Int} {S : W_S} {M M0 M1 : g_M} {x w : Nat} {F : Int → Int} {tp n : Int}
theorem c_askH {Q : Int → g_M → Prop} (hnR : g_InR n) (H : C_H ι κ al sz cB eB S.1 S.2.1 S.2.2 M) (hok : W_ok S) (hgv : ∀ w, w < 2 → S.2.2 w ≤ 1000000) (hT : g_i M (ι 0) 12 = tp) (htp : tp ≤ 2000) (hB : ∀ q, -128 ≤ F q ∧ F q ≤ 127) (hF : ∀ q, 0 ≤ q → q < n → g_i M (ι 2) (4 + q) = F q) (hno : n < 0 ∨ tp < n → Q (-1) M) (hbq : ∀ (B : Int → Int) (h s : b_E) (r : List b_E), b_sts B 2008 8 15 (h :: s :: r) → Q_rq 8 (h :: s :: r) = -1 → Q_op h.2.1 = 9 → ((K_F 20).1 (L_ch 8 h) 0).1 = 0 → ∀ x, x < 8 → ∀ V T m1 m2, S.1 x = some (V, T, m1, m2) → C_bq B (p_jn V.2.2.1) (L_ch 8 h) ∧ ∀ s2, V.2.2.2 = some s2 → C_bq B (p_jn s2) (L_ch 8 h)) (hq : 0 ≤ n → n ≤ tp → ∀ (al1 sz1 : Nat → Nat × Nat) (cB1 eB1 : Int) (M1 : g_M), (cB ≤ cB1 ∧ cB1 ≤ cB + n ∧ eB ≤ eB1 ∧ eB1 ≤ eB + 2) → C_H ι κ al1 sz1 cB1 eB1 (W_ask F n S).2.1 (W_ask F n S).2.2.1 (W_ask F n S).2.2.2 M1 → c_Wr (ι 3) (ι 4) 8000 0 8000 (W_ask F n S).1 M1 → (W_ask F n S).1.length ≤ 8000 → g_i M1 (ι 0) 12 = 0 → Q (W_ask F n S).1.length M1) : g_Call (d + 233) 195 [.ref (ι 0), g_n n] M (g_qI Q) := by
  refine m_X11_ask (d := d + 232) hnR fun _ => ⟨fun z => hno (Or.inl z), fun n0 => ⟨H.1.O (by decide), fun z => hno (Or.inr (by rw [hT] at z; exact z)), fun nt => fun M2 e2 _ M6 e6 _ => ?_⟩⟩
  rw [hT] at nt
  have n0 : 0 ≤ n := by omega
  have nt : n ≤ tp := by omega
  have hq := hq n0 nt
  have f6 : e_fr (fun y _ => y = ι 0) M M6 := by
    rw [e6, e2]
    exact (e_fr.wi _ rfl).tr (e_fr.wi _ rfl)
  have H6 : C_H ι κ al sz cB eB S.1 S.2.1 S.2.2 M6 := H.es (T := [0]) f6 (by decide) fun y k z => ⟨0, by decide, z, fun g => absurd g (by decide)⟩
  have a12 : g_i M6 (ι 0) 12 = 0 := by rw [e6, g_i_ws, if_neg (by decide), e2, g_i_ws, if_pos rfl]
  have a17 : g_i M6 (ι 0) 17 = 0 := by rw [e6, g_i_ws, if_pos rfl]
  have b6 : g_i M6 (ι 2) = g_i M (ι 2) := funext fun k => f6.2.1 _ _ (H.2.1.ne (by decide) (by decide) (by decide))
  obtain ⟨a1, a2, a3⟩ := c_anew (d := d + 230) (Q := fun M19 => ∃ b24, g_r M19 (ι 0) 2 = some b24 ∧ g_O M19 b24 6 ∧ g_Call (d + 232) 96 [.ref b24, g_n n] M19 (g_qI fun r30 M27 => g_ext M19 M27 → g_ok M27 → g_InR r30 → ((r30 = 0 → ∃ b40, g_r M27 (ι 0) 2 = some b40 ∧ g_O M27 b40 6 ∧ ∃ b43, g_r M27 (ι 0) 2 = some b43 ∧ g_O M27 b43 6 ∧ g_Call (d + 232) 197 [.ref (ι 0), g_n (g_i M27 b40 1), g_n (g_i M27 b43 2)] M27 (g_qV fun M46 => g_ext M27 M46 → g_ok M46 → g_Run (d + 232) 195 91 [(0, .ref (ι 0)), (1, g_n n)] [] M46 (g_qI Q))) ∧ (¬ r30 = 0 → g_Call (d + 232) 205 [.ref (ι 0)] M27 (g_qI fun r35 M32 => g_ext M27 M32 → g_ok M32 → g_InR r35 → ((r35 < 0 → g_Run (d + 232) 195 91 [(0, .ref (ι 0)), (1, g_n n)] [] M32 (g_qI Q)) ∧ (¬ r35 < 0 → g_Call (d + 232) 198 [.ref (ι 0), g_n 9, g_n r35] M32 (g_qV fun M37 => g_ext M32 M37 → g_ok M37 → g_Run (d + 232) 195 91 [(0, .ref (ι 0)), (1, g_n n)] [] M37 (g_qI Q))))))))) H6 fun M1 H1 k1 b1 W1 ok1 => by
    have i17 : g_i M1 (ι 0) 17 = 0 := by rw [k1.1]; exact a17
    have i12 : g_i M1 (ι 0) 12 = 0 := by rw [k1.1]; exact a12
    have b1 : g_i M1 (ι 2) = g_i M (ι 2) := b1.trans b6
    refine ⟨ι 5, H1.1.r (by decide), H1.1.O (by decide), ?_⟩
    have W1' : c_Wr (ι 3) (ι 4) 8000 0 8000 ([0, 0, 0, 0] ++ []) M1 := W1
    -- a request that is faulty before it is done
    have hbad : ∀ (M3 : g_M) (c p : Int), c ≠ 0 → C_H ι κ al sz cB eB S.1 S.2.1 S.2.2 M3 → g_i M3 (ι 0) 17 = c → g_i M3 (ι 0) 18 = p → g_i M3 (ι 0) 12 = 0 → c_Wr (ι 3) (ι 4) 8000 0 8000 ([0, 0, 0, 0] ++ []) M3 → W_ask F n S = (A_flt c p, S) → g_Run (d + 232) 195 91 [(0, .ref (ι 0)), (1, g_n n)] [] M3 (g_qI Q) := fun M3 c p hc H3 e17 e18 e12 W3 hA => by
      rw [hA] at hq
      refine s_X11_ask_91 (a0 := ι 0) hnR fun _ => ⟨H3.1.O (by decide), fun z => absurd (e17.symm.trans z) hc, fun _ => ?_⟩
      refine c_219 (d := d + 227) (c := c) (p := p) (x := []) (t := []) hnR H3 (fun z => absurd z hc) (fun _ => ⟨e17, e18, W3⟩) fun M4 H4 k4 W4 => ?_
      have hA2 : W_an c p [] = A_flt c p := if_neg hc
      rw [hA2] at W4 ⊢
      exact hq al sz cB eB M4 (by omega) H4 W4 (A_flt_len _ _) (by rw [k4 12 (by decide) (by decide)]; exact e12)
    obtain ⟨R, hR⟩ : ∃ R, R = r_doc F 16 0 n false := ⟨_, rfl⟩
    have hg := r_doc_good hB 16 0 n false (by omega)
    rw [← hR] at hg
    refine c_reads (d := d + 180) (o := ι 5) (a := ι 2) (n := 246408) (F := F) ⟨H1.1.O (by decide), H1.1.r (by decide), H1.1.A (by decide), by decide⟩ hB (fun q q0 q1 => by rw [b1]; exact hF q q0 (by omega)) (by omega) (by omega) n0 (fun h0 => ?_) fun h0 => ?_
    · -- it was read
      intro _ _ _
      refine ⟨fun z => absurd z (by decide), fun _ => ?_⟩
      rw [← hR] at h0
      obtain ⟨g1, g2, g3⟩ := hg h0
      have g3 : b_gv 16 3 (b_sub F (R.2.2 - 0).toNat 0) := g3
      rw [Int.sub_zero] at g3
      obtain ⟨D1, es, eD, evb, elen, eok, egv, -, ech⟩ := b_gv_doc g3 (Or.inl rfl)
      have eD1 : D1 = 15 := by omega
      subst eD1
      have hes : W_es F n = es := by
        unfold W_es
        rw [← hR]
        exact ech
      have hdl := b_doc_len es
      have hvl : (b_doc es).length = R.2.2.toNat := by rw [← evb, b_sub_len]
      have hat : b_at (g_i M1 (ι 2)) 4 (b_doc es) := by
        have h9 := b_sub_at F R.2.2.toNat 0
        rw [evb] at h9
        have h8 := b_at_move (B2 := g_i M1 (ι 2)) (s := 4) h9 fun j j1 j2 => by
          rw [b1, show j + 4 = 4 + j by omega]
          exact hF j (by omega) (by omega)
        rwa [Int.zero_add] at h8
      have hhd : b_at (g_i M1 (ι 2)) 2 (b_el 3 [] (b_doc es)) := by
        have h9 : b_el 3 [] (b_doc es) = [3, 0] ++ b_doc es := rfl
        rw [h9]
        refine b_app.mpr ⟨?_, ?_⟩
        · exact (b_app (x := [10, 0]) (y := [3, 0])).mp H1.2.2.2.1 |>.2
        · exact hat
      have hel := b_el_len 3 [] (b_doc es)
      rw [List.length_nil] at hel
      have hst : b_st (g_i M1 (ι 2)) 2008 2 (15 + 1) 3 [] (b_doc es) := ⟨hhd, fun c hc => absurd hc (by simp), by rw [← evb]; exact g3, by decide, by omega⟩
      have hsts : b_sts (g_i M1 (ι 2)) 2008 8 15 es := b_st.sts (p := 2) (nm := []) (k := 3) hhd egv (by decide) (by omega)
      have hbnd : (b_ser es).length + 5 ≤ n.toNat := by omega
      refine c_wrongH (d := d + 184) (De := 15) H1 hst hsts (by decide) fun M3 H3 f3 k3 hrq => ?_
      intro _ ok3 hrR
      have j17 : g_i M3 (ι 0) 17 = 0 := by rw [k3 17 (by decide) (by decide) (by decide)]; exact i17
      have j12 : g_i M3 (ι 0) 12 = 0 := by rw [k3 12 (by decide) (by decide) (by decide)]; exact i12
      have W3 := f3.Wr (by decide) (by decide) W1'
      have b3 := (f3.2.2 2 (by decide) (by decide) (by decide)).1
      by_cases hm : Q_rq 8 es = -1
      · refine ⟨fun _ => ?_, fun z => absurd (by rw [hm]; decide) z⟩
        obtain ⟨h, s, r, e1, e2, e3, e4, e5, e6⟩ := hrq hm
        clear hrq
        subst e1
        rw [W_ask_s (by rw [← hR]; exact h0) (by rw [hes]; exact hm) hes] at hq
        have hsts3 : b_sts (g_i M3 (ι 2)) 2008 8 15 (h :: s :: r) := by
          rw [b3]
          exact hsts
        have hhl : (b_el h.1 h.2.1 h.2.2).length ≤ n.toNat := by
          have h9 : b_ser (h :: s :: r) = b_el h.1 h.2.1 h.2.2 ++ b_ser (s :: r) := rfl
          have h8 := congrArg List.length h9
          rw [List.length_append] at h8
          refine Nat.le_trans ?_ (Nat.le_trans (Nat.le_add_right _ 5) hbnd)
          rw [h8]
          exact Nat.le_add_right _ _
        have hw2 := W_w_2 s
        refine c_doH (d := d) (n := n.toNat) hnR H3 hok (hgv _ hw2) hw2 e6 e3 e4 e5 hsts3 hm hhl (fun o9 k0 x x1 x2 V T m1 m2 e => hbq _ h s r hsts3 hm o9 k0 x (by omega) V T m1 m2 e) W3 j17 ?_
        intro al1 sz1 cB1 eB1 M4 hb H4 ht0 ht1 k4
        refine c_219 (d := d + 227) (c := (W_do 8 (8 + (b_el h.1 h.2.1 h.2.2).length + (b_el s.1 s.2.1 s.2.2).length) (W_w s) h (r.head?.getD (0, [], [])) S).1.1) (p := W_q4 (W_do 8 (8 + (b_el h.1 h.2.1 h.2.2).length + (b_el s.1 s.2.1 s.2.2).length) (W_w s) h (r.head?.getD (0, [], [])) S).1.2) (x := (W_do 8 (8 + (b_el h.1 h.2.1 h.2.2).length + (b_el s.1 s.2.1 s.2.2).length) (W_w s) h (r.head?.getD (0, [], [])) S).2.1) (t := []) hnR H4 (fun z => ht0 z) (fun z => ht1 z) fun M5 H5 k5 W5 => ?_
        exact hq al1 sz1 cB1 eB1 M5 (by omega) H5 W5 (W_an_len _ _ _) (by rw [k5 12 (by decide) (by decide), k4 12 (by decide) (by decide)]; exact j12)
      · have hlo := (Q_rq_lo 8 es).resolve_left hm
        refine ⟨fun z => absurd z (by omega), fun _ => c_failAt (d := d + 230) (H3.1.O (by decide)) ⟨by decide, by decide⟩ hrR (by omega) ?_⟩
        intro _ _
        obtain ⟨H4, c1, c2, c3⟩ := H3.fl (a := 9) (b := Q_rq 8 es - 4) rfl
        refine hbad _ 9 (Q_rq 8 es - 4) (by decide) H4 c1 c2 (by rw [c3 12 (by decide) (by decide)]; exact j12) (W3.fl H3) ?_
        unfold W_ask
        rw [if_pos (by rw [← hR]; exact h0), if_neg (by rw [hes]; exact hm), hes]
    · -- it could not be read
      rw [← hR] at h0 ⊢
      intro _ ok27 _
      have f27 : e_fr (fun y _ => y = ι 5) M1 (c_f M1 (ι 5) R.1 R.2.1) := (e_fr.wi _ rfl).tr (e_fr.wi _ rfl)
      have H27 : C_H ι κ al sz cB eB S.1 S.2.1 S.2.2 (c_f M1 (ι 5) R.1 R.2.1) := H1.es (T := [5]) f27 (by decide) fun y k z => ⟨5, by decide, z, fun g => absurd g (by decide)⟩
      have n27 : ∀ {a : Nat}, a ∈ Ck_k → a ≠ 5 → g_i (c_f M1 (ι 5) R.1 R.2.1) (ι a) = g_i M1 (ι a) := fun ha hn => funext fun k => f27.2.1 _ _ (H1.2.1.ne ha (by decide) hn)
      have v1 : g_i (c_f M1 (ι 5) R.1 R.2.1) (ι 5) 1 = R.1 := by
        unfold c_f
        rw [g_i_ws, if_neg (by decide), g_i_ws, if_pos rfl]
      have v2 : g_i (c_f M1 (ι 5) R.1 R.2.1) (ι 5) 2 = R.2.1 := by
        unfold c_f
        rw [g_i_ws, if_pos rfl]
      have W27 : c_Wr (ι 3) (ι 4) 8000 0 8000 ([0, 0, 0, 0] ++ []) (c_f M1 (ι 5) R.1 R.2.1) := W1'.sm (fun a c hc => by rw [f27.sh]; exact hc) ⟨n27 (by decide) (by decide), funext fun k => f27.2.2 _ _⟩ (n27 (by decide) (by decide))
      refine ⟨fun _ => ⟨ι 5, H27.1.r (by decide), H27.1.O (by decide), ι 5, H27.1.r (by decide), H27.1.O (by decide), ?_⟩, fun z => absurd rfl z⟩
      rw [v1, v2]
      refine c_fail (d := d + 231) (H27.1.O (by decide)) (by rw [← v1]; exact ok27.1 _ _) (by rw [← v2]; exact ok27.1 _ _) ?_
      intro _ _
      obtain ⟨H4, c1, c2, c3⟩ := H27.fl (a := R.1) (b := R.2.1) rfl
      refine hbad _ R.1 R.2.1 h0 H4 c1 c2 (by rw [c3 12 (by decide) (by decide), n27 (a := 0) (by decide) (by decide)]; exact i12) (W27.fl H27) ?_
      unfold W_ask
      rw [if_neg (by rw [← hR]; exact h0), ← hR]
  exact ⟨ι 3, a1, a2, a3⟩
end CAK
