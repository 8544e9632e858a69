/-! CHANGES: the class changes values -/
theorem X_a0 {A B : Int64} (h : A + B = A) : B = 0 := by
  have h1 := congrArg Int64.toBitVec h
  rw [Int64.toBitVec_add] at h1
  apply Int64.toBitVec_inj.mp
  show B.toBitVec = 0#64
  bv_omega
/-- the value that $inc puts -/
noncomputable def X_nv (e p : b_E) (sm : Bool) : b_E := if sm = true then (16, e.2.1, b_le4 (v_num e.1 e.2.2 + v_num p.1 p.2.2).toInt32.toInt) else (18, e.2.1, b_le8 (v_num e.1 e.2.2 + v_num p.1 p.2.2))
theorem X_nv_same {e p : b_E} {sm : Bool} (he : e.1 = 16 ∨ e.1 = 18) (hv : b_vs e.1 e.2.2) (hB : b_B e.2.2) (hsm : sm = true → e.1 = 16 ∧ g_lc (v_num e.1 e.2.2 + v_num p.1 p.2.2) (Int64.ofInt ((v_num e.1 e.2.2 + v_num p.1 p.2.2).toInt32.toInt)) = 0) : X_nv e p sm = e ↔ (if sm = true then 16 else 18 : Int) = e.1 ∧ v_num p.1 p.2.2 = 0 := by
  have hl16 : e.1 = 16 → e.2.2.length = 4 := fun h => by
    rcases hv with ⟨-, h2⟩ | ⟨h1, -⟩ | ⟨h1, -⟩ | ⟨h1, -⟩ | ⟨h1, -⟩ | ⟨h1, -⟩
    · exact h2
    all_goals omega
  have hl18 : e.1 = 18 → e.2.2.length = 8 := fun h => by
    rcases hv with ⟨h1, -⟩ | ⟨-, h2⟩ | ⟨h1, -⟩ | ⟨h1, -⟩ | ⟨h1, -⟩ | ⟨h1, -⟩
    · omega
    · exact h2
    all_goals omega
  generalize hBB : v_num p.1 p.2.2 = BB at *
  unfold X_nv
  cases sm
  · rw [if_neg (by decide), if_neg (by decide), hBB]
    constructor
    · intro h
      have h1 : (18 : Int) = e.1 := congrArg Prod.fst h
      have h2 : b_le8 (v_num e.1 e.2.2 + BB) = e.2.2 := congrArg (fun z => z.2.2) h
      refine ⟨h1, X_a0 (A := v_num e.1 e.2.2) (le8_inj ?_)⟩
      rw [h2, ← h1]
      exact (enc8 (hl18 h1.symm) hB).symm
    · rintro ⟨h1, rfl⟩
      refine Prod.ext h1 (Prod.ext rfl ?_)
      show b_le8 (v_num e.1 e.2.2 + 0) = e.2.2
      rw [Int64.add_zero, ← h1]
      exact enc8 (hl18 h1.symm) hB
  · obtain ⟨h16, hs⟩ := hsm rfl
    rw [if_pos rfl, if_pos rfl, hBB]
    have hs := (g_lc0 _ _).mp hs
    have hA : v_num e.1 e.2.2 = Int64.ofInt (b_w4 (b_fn e.2.2) 0) := by rw [h16, v_num16]
    have hwR : g_InR (b_w4 (b_fn e.2.2) 0) := b_w4_R _ _
    constructor
    · intro h
      have h2 : b_le4 (v_num e.1 e.2.2 + BB).toInt32.toInt = e.2.2 := congrArg (fun z => z.2.2) h
      refine ⟨h16.symm, X_a0 (A := v_num e.1 e.2.2) ?_⟩
      have h3 := enc4L (hl16 h16) hB
      have h4 : (v_num e.1 e.2.2 + BB).toInt32.toInt = b_w4 (b_fn e.2.2) 0 := le4_inj ⟨Int32.le_toInt _, by have := Int32.toInt_lt (v_num e.1 e.2.2 + BB).toInt32; omega⟩ hwR (h2.trans h3.symm)
      rw [h4] at hs
      rw [hs]
      exact hA.symm
    · rintro ⟨h1, rfl⟩
      refine Prod.ext h16.symm (Prod.ext rfl ?_)
      show b_le4 (v_num e.1 e.2.2 + 0).toInt32.toInt = e.2.2
      rw [Int64.add_zero, hA, u_to32 hwR]
      exact enc4L (hl16 h16) hB
section VALS
variable {d o b po pf pt ch wo : Nat} {F : Int → Int} {M M1 : g_M} {c : List h_F} {e p : b_E} {es l t mid mid2 : List b_E} {Q : Int → g_M → Prop}
/-- a byte in the hole -/
theorem X_Sh.kb {h : Nat} {j v : Int} (hS : X_Sh F o b po pf pt ch wo c h M) (k1 : h_at 163608 c ≤ j) (k2 : j < h_at 163608 c + h) : X_Sh F o b po pf pt ch wo c h (g_wi M b j v) ∧ e_fr (X_SL o b wo) M (g_wi M b j v) ∧ g_i (g_wi M b j v) b j = v ∧ (∀ k, k ≠ j → g_i (g_wi M b j v) b k = g_i M b k) ∧ g_i (g_wi M b j v) o 6 = g_i M o 6 ∧ (∀ y, y ≠ b → ∀ k, g_i (g_wi M b j v) y k = g_i M y k) := by
  have f : e_fr (c_WL wo b (h_at 163608 c) (h_at 163608 c + h)) M (g_wi M b j v) := e_fr.wi v (Or.inr ⟨rfl, k1, k2⟩)
  obtain ⟨h1, h2⟩ := hS.wr f
  exact ⟨h1, h2, by rw [g_i_wi, if_pos ⟨rfl, rfl⟩], fun k hk => by rw [g_i_wi, if_neg fun z => hk z.2], X_6 hS f, fun y hy k => by rw [g_i_wi, if_neg fun z => hy z.1]⟩
theorem c_Wr.kb {a lim j v : Int} (h : c_Wr wo b 246408 a lim [] M) (hne : wo ≠ b) : c_Wr wo b 246408 a lim [] (g_wi M b j v) := by
  obtain ⟨⟨h1, h2, h3, h4⟩, h5, h6, h7, h8⟩ := h
  have f : e_fr (fun y k => y = b ∧ k = j) M (g_wi M b j v) := e_fr.wi v ⟨rfl, rfl⟩
  have hk : ∀ k, g_i (g_wi M b j v) wo k = g_i M wo k := fun k => f.2.1 wo k fun z => hne z.1
  refine ⟨⟨f.O h1, by rw [f.2.2]; exact h2, f.A h3, h4⟩, h5, h6, by rw [hk]; exact h7, ?_⟩
  rcases h8 with ⟨a1, a2, a3, -⟩ | ⟨a1, a2, a3, a4⟩
  · exact Or.inl ⟨by rw [hk]; exact a1, by rw [hk]; exact a2, a3, fun i v hv => absurd hv (by simp)⟩
  · exact Or.inr ⟨by rw [hk]; exact a1, by rw [hk]; exact a2, by rw [hk]; exact a3, a4⟩
theorem X_val {k2 : Int} {vb2 : List Int} (hSt : X_St F o b po pf pt ch wo c e M) (hS : X_Sh F o b po pf pt ch wo c (b_el k2 e.2.1 vb2).length M1) (hk : g_i M1 b (h_at 163608 c) = k2) (hn : ∀ k, h_at 163608 c + 1 ≤ k → k < h_at 163608 c + 2 + e.2.1.length → g_i M1 b k = g_i M b k) (hv : b_at (g_i M1 b) (h_at 163608 c + 2 + e.2.1.length) vb2) : X_St F o b po pf pt ch wo c (k2, e.2.1, vb2) M1 := by
  refine ⟨hS, ?_⟩
  have he : ∀ k vb, b_el k e.2.1 vb = k :: ((e.2.1 ++ [0]) ++ vb) := fun k vb => by unfold b_el; simp
  have h1 := hSt.2
  rw [he] at h1
  show b_at (g_i M1 b) (h_at 163608 c) (b_el k2 e.2.1 vb2)
  rw [he]
  obtain ⟨-, h2⟩ := b_cons.mp h1
  obtain ⟨h3, -⟩ := b_app.mp h2
  refine b_cons.mpr ⟨hk, b_app.mpr ⟨b_at_keep h3 fun k q1 q2 => hn k (by omega) ?_, ?_⟩⟩
  · rw [List.length_append, List.length_singleton] at q2
    omega
  · rw [List.length_append, List.length_singleton, show h_at 163608 c + 1 + ((e.2.1.length + 1 : Nat) : Int) = h_at 163608 c + 2 + e.2.1.length by omega]
    exact hv
theorem c_replace {pp : Int} {D Dp : Nat} (hSt : X_St F o b po pf pt ch wo c e M) (h1 : b_nz e.2.1) (h2 : b_gv D e.1 e.2.2) (hp : b_st F 100000 pp Dp p.1 p.2.1 p.2.2) (hmx : h_hs (b_el e.1 e.2.1 e.2.2).length c + p.2.2.length ≤ 15000) (hq : ∀ M1, e_fr (X_SL o b wo) M M1 → X_St F o b po pf pt ch wo c (p.1, e.2.1, p.2.2) M1 → g_i M1 o 6 = (if (p.1, e.2.1, p.2.2) = e then g_i M o 6 else 1) → Q 0 M1) : g_Call (d + 4) 32 [.ref o, g_n pp, g_n (h_at 163608 c)] M (g_qI Q) := by
  have hs := hSt.st h1 h2 (by omega)
  have hSh := hSt.1
  obtain ⟨hO, hF, hok, hln, hZ, h5, h4, hch⟩ := id hSh
  obtain ⟨⟨o1, o2, o3, o4, o5⟩, hP, och, ob, ow, owb⟩ := id hO
  have hp' : b_st (g_i M b) 246408 pp Dp p.1 p.2.1 p.2.2 := hp.of hF
  obtain ⟨pv1, pv2, pv3, pv4⟩ := hp'.val
  obtain ⟨sv1, sv2, sv3, sv4⟩ := hs.val
  have hpl := b_el_len p.1 p.2.1 p.2.2
  have hel := b_el_len e.1 e.2.1 e.2.2
  have hnl := b_el_len p.1 e.2.1 p.2.2
  have hpk := b_vs_pos (b_gv_vs hp.2.2.1)
  have hin := h_at_in (b_el e.1 e.2.1 e.2.2).length c 163608
  have hge := h_at_ge c 163608
  have hh2 := h_hs_add e.2.2.length p.2.2.length c
  have hpF : ∀ x : Int, g_i M b pp = p.1 := fun _ => pv4
  have hppn : pp < 100000 := by
    have := hp.2.2.2.2
    omega
  have h77 : ¬ (p.1, e.2.1, p.2.2) = e → g_Run (d + 3) 32 77 [(0, .ref o), (1, g_n pp), (2, g_n (h_at 163608 c)), (3, g_n (pp + 2 + p.2.1.length)), (4, g_n (pp + (b_el p.1 p.2.1 p.2.2).length)), (5, g_n (h_at 163608 c + 2 + e.2.1.length)), (6, g_n (h_at 163608 c + (b_el e.1 e.2.1 e.2.2).length))] [] M (g_qI Q) := by
    intro hne
    refine s_X1_replace_77 ⟨by omega, by omega⟩ ⟨by omega, by omega⟩ ⟨by omega, by omega⟩ ⟨by omega, by omega⟩ ⟨by omega, by omega⟩ ⟨by omega, by omega⟩ fun _ => ⟨⟨by omega, by omega⟩, ⟨by omega, by omega⟩, o1, ?_⟩
    rw [show h_at 163608 c + ((b_el e.1 e.2.1 e.2.2).length : Int) - (h_at 163608 c + 2 + e.2.1.length) = (e.2.2.length : Int) by omega, show pp + ((b_el p.1 p.2.1 p.2.2).length : Int) - (pp + 2 + p.2.1.length) = (p.2.2.length : Int) by omega]
    have g2 := h_hs_add 0 (b_el p.1 e.2.1 p.2.2).length c
    have g3 := h_hs_add 0 (b_el e.1 e.2.1 e.2.2).length c
    rw [Nat.zero_add] at g2 g3
    refine c_splice (h2 := (b_el p.1 e.2.1 p.2.2).length) hO hok hln hZ h4 hch h5 (by omega) (by omega) (by omega) (by omega) (by omega) (by omega) (by omega) fun M2 f2 hZ2 e52 e62 kp1 kp2 W2 => ?_
    intro _ _ _
    have hSh2 := hSh.cl f2 hZ2 e52
    obtain ⟨⟨⟨t1, t2, -, -, t5⟩, -, -, tb, tw, -⟩, tF, -⟩ := id hSh2
    obtain ⟨-, -, nwb, -⟩ := hSh2.1.ne
    refine ⟨fun g => absurd g (by decide), fun _ => ⟨wo, t5, b, t2, tw, c_outVal W2 tb (by decide) (hp.of tF) fun M3 f3 W3 => ?_⟩⟩
    intro _ _
    rw [List.nil_append] at W3
    obtain ⟨hSh3, f3'⟩ := hSh2.wr2 f3 (by omega) (by omega)
    obtain ⟨⟨⟨u1, u2, -, -, u5⟩, -, -, ub, uw, -⟩, uF, -⟩ := id hSh3
    obtain ⟨w1, w2, w3, w4⟩ := (b_st.of hp uF).val
    refine ⟨b, u2, b, u2, _, ub, ⟨by omega, by omega⟩, _, ub, ⟨by omega, by omega⟩, ?_⟩
    rintro _ rfl _
    rw [w4, g_w8_of (by omega) (by omega)]
    obtain ⟨y1, y2, y3, y4, y5, y6⟩ := hSh3.kb (j := h_at 163608 c) (v := p.1) (Int.le_refl _) (by omega)
    refine hq _ ((f2.tr f3').tr y2) (X_val hSt y1 y3 (fun k k1 k2 => ?_) (b_at_keep (c_Wr.hole (wo := wo) W3) fun k k1 k2 => y4 k (by omega))) ?_
    · rw [y4 k (by omega), f3.2.1 b k (fun z => ?_), kp1 k (by omega) (by omega)]
      rcases z with ⟨z, -⟩ | ⟨-, z, -⟩
      · exact nwb z.symm
      · omega
    · rw [y5, X_6 hSh2 f3, e62, if_neg hne]
  refine m_X1_replace (hp.R (by decide)) (hs.R (by decide)) fun hgk => ⟨o1, b, o2, c_va2 ob (by decide) hp' fun _ _ _ => ⟨b, o2, c_nx2 ob (by decide) hp' fun _ _ _ => ⟨b, o2, c_va2 ob (by decide) hs fun _ _ _ => ⟨b, o2, c_nx2 ob (by decide) hs fun _ _ _ => ⟨b, o2, _, ob, ⟨by omega, by omega⟩, b, o2, _, ob, ⟨by omega, by omega⟩, fun gk => ⟨b, o2, b, o2, ?_⟩, fun gk => h77 fun z => gk ?_⟩⟩⟩⟩⟩
  · have hc : g_Call (d + 3) 123 [.ref b, g_n (pp + 2 + p.2.1.length), g_n (pp + 2 + p.2.1.length + p.2.2.length), .ref b, g_n (h_at 163608 c + 2 + e.2.1.length), g_n (h_at 163608 c + 2 + e.2.1.length + e.2.2.length)] M (g_qI fun r47 M44 => g_ext M M44 → g_ok M44 → g_InR r47 → ((r47 = 0 → Q 0 M44) ∧ (¬ r47 = 0 → g_Run (d + 3) 32 77 [(0, .ref o), (1, g_n pp), (2, g_n (h_at 163608 c)), (3, g_n (pp + 2 + p.2.1.length)), (4, g_n (pp + (b_el p.1 p.2.1 p.2.2).length)), (5, g_n (h_at 163608 c + 2 + e.2.1.length)), (6, g_n (h_at 163608 c + (b_el e.1 e.2.1 e.2.2).length))] [] M44 (g_qI Q)))) := by
      refine c_cmp ob ob (by decide) (by decide) pv1 sv1 (by omega) (by omega) (by omega) (by omega) ?_
      intro _ _ _
      have hc0 := b_cmp0 (b_at_B (fun q => hgk.byte ob q) pv1) (b_at_B (fun q => hgk.byte ob q) sv1)
      refine ⟨fun g0 => ?_, fun g0 => h77 fun z => g0 (hc0.mpr ?_)⟩
      · have heq : (p.1, e.2.1, p.2.2) = e := Prod.ext (by show p.1 = e.1; rw [← pv4, ← sv4, gk]) (Prod.ext rfl (hc0.mp g0))
        exact hq M (e_fr.rf _ _) (by rw [heq]; exact hSt) (by rw [if_pos heq])
      · exact congrArg (fun z => z.2.2) z
    rwa [show pp + 2 + (p.2.1.length : Int) + p.2.2.length = pp + (b_el p.1 p.2.1 p.2.2).length by omega, show h_at 163608 c + 2 + (e.2.1.length : Int) + e.2.2.length = h_at 163608 c + (b_el e.1 e.2.1 e.2.2).length by omega] at hc
  · rw [pv4, sv4]
    have hz := congrArg (fun w : b_E => w.1) z
    exact hz
end VALS
