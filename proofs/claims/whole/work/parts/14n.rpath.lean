/-! CHANGES: the reference does a path -/
theorem X_op_iff (nm : List Int) : (nm = b_tx 32 ↔ X_op nm = 1) ∧ (nm = b_tx 33 ↔ X_op nm = 2) ∧ (nm = b_tx 34 ↔ X_op nm = 3) ∧ (nm = b_tx 35 ↔ X_op nm = 4) ∧ (nm = b_tx 36 ↔ X_op nm = 5) ∧ (nm = b_tx 37 ↔ X_op nm = 6) := by
  refine ⟨⟨fun h => by rw [h]; decide, fun h => ?_⟩, ⟨fun h => by rw [h]; decide, fun h => ?_⟩, ⟨fun h => by rw [h]; decide, fun h => ?_⟩, ⟨fun h => by rw [h]; decide, fun h => ?_⟩, ⟨fun h => by rw [h]; decide, fun h => ?_⟩, ⟨fun h => by rw [h]; decide, fun h => ?_⟩⟩
  all_goals
    unfold X_op at h
    repeat' (split at h)
    all_goals first | assumption | exact absurd h (by decide)
section RPATH
variable {d m b ch : Nat} {F : Int → Int} {M M1 : g_M} {c : List h_F} {e e1 o p : b_E} {es l t : List b_E} {Q : Int → g_M → Prop}
theorem e_opIs {i q k : Int} {j j2 : Nat} {D : Nat} {nm vb : List Int} (hj : j < q_nS) (hjj : b_tx j = b_tx j2) (hi : nm = b_tx j2 ↔ X_op nm = i) (hR : e_R M m b) (hs : b_st (g_i M b) 2706210 q D k nm vb) (h : Q (if X_op nm = i then 1 else 0) M) : g_Call (d + 4) 236 [.ref m, g_n q, .ref (4 * j + 1)] M (g_qI Q) :=
  e_nm3 hj hjj hR hs (fun g => by rwa [if_pos (hi.mp g)] at h) fun g => by rwa [if_neg fun z => g (hi.mpr z)] at h
theorem R_root {n : Nat} {v : List Int} (h : h_Z (e_B M b) n 921998 [] ∧ b_at (e_B M b) (h_at 921998 []) (b_el 3 [] v)) : b_at (g_i M b) 922000 v := by
  have h2 : b_at (e_B M b) 921998 (b_el 3 [] v) := h.2
  have he : b_el 3 [] v = 3 :: 0 :: v := by unfold b_el; simp
  rw [he] at h2
  exact (e_B_at (by decide)).mp (b_cons.mp (b_cons.mp h2).2).2
theorem X_G_one (p : b_E) (x : List Int) : X_G p [x] = x.length + 7 + (p.2.2.length + 3) := by
  rw [X_G_cons]
  unfold X_G
  simp
/-- an item goes -/
theorem e_unset {D : Nat} {Qv : g_M → Prop} (hSt : R_St F m b ch c e M) (hE : X_E D e es) (hes : es = l ++ e1 :: t) (hw : g_i M m 4 = 2606200) (hcl : c.length ≤ 9) (hmx : h_hs (b_el e.1 e.2.1 e.2.2).length c ≤ 15000) (hq : ∀ M1, e_fr (R_WK b) M M1 → h_Z (e_B M1 b) (b_ser []).length 921998 (c ++ [(e.1, e.2.1, l, t)]) → Qv M1) : g_Call (d + 4) 306 [.ref m, g_n (h_at 921998 (c ++ [(e.1, e.2.1, l, t)])), g_n (b_el e1.1 e1.2.1 e1.2.2).length] M (g_qV Qv) := by
  obtain ⟨hst1, hZ1, hat1, hhs1, hpos, hge1⟩ := hSt.item hE hes (by omega)
  obtain ⟨hO, hF, hcl0, hrt, hZ, hat, h13, hch, h14⟩ := hSt
  obtain ⟨hR, h12, hA⟩ := id hO
  obtain ⟨f0, c0, hc0, hf0⟩ := hrt.hd l t
  have hcl1 : (c ++ [((e.1, e.2.1, l, t) : h_F)]).length = c.length + 1 := by rw [List.length_append, List.length_singleton]
  have hz := h_hs_add 0 (b_el e1.1 e1.2.1 e1.2.2).length (c ++ [(e.1, e.2.1, l, t)])
  rw [Nat.zero_add] at hz
  exact e_splice (d := d) (h := (b_el e1.1 e1.2.1 e1.2.2).length) (h2 := 0) (x := []) hR h12 hA hc0 hf0 (by omega) hZ1 (by omega) (by rw [h_vc_snoc]; exact hch) (b_nil _ _) (by rw [hw]; simp) (by simp) (Int.le_refl _) (by omega) (Int.le_refl _) (by simp) (by omega) (by omega) fun M1 f1 hZ1' _ _ _ => hq M1 f1 hZ1'
theorem e_path {po pp : Int} {Do : Nat} (hO : R_O m b ch M) (hF : ∀ k, k < 922000 → g_i M b k = F k) (hd : b_at (g_i M b) 922000 (b_doc es)) (hE : X_E 30 (3, [], b_doc es) es) (ho : b_st F 900000 po Do o.1 o.2.1 o.2.2) (hop : X_op o.2.1 ≠ 0) (hp : b_st F 900000 pp 20 p.1 p.2.1 p.2.2) (hpn : X_op o.2.1 = 3 → p.1 = 16 ∨ p.1 = 18) (hst : (p_sp p.2.1).length ≤ 8) (hmx : (b_doc es).length + 2 + X_G p (p_sp p.2.1) ≤ 14900) (hq : ∀ M1, e_fr (R_FL m b ch) M M1 → ((X_path (X_op o.2.1) p es).1 = 0 → b_at (g_i M1 b) 922000 (b_doc (X_path (X_op o.2.1) p es).2)) → Q (X_path (X_op o.2.1) p es).1 M1) : g_Call (d + 69) 315 [.ref m, g_n po, g_n pp] M (g_qI Q) := by
  obtain ⟨n1, n2, n3⟩ := hO.ne
  have hR := hO.1
  have hoR := ho.R (by decide)
  have hpR := hp.R (by decide)
  have hp5 := hp.2.2.2.2
  have hp4 := hp.2.2.2.1
  have hpl := b_el_len p.1 p.2.1 p.2.2
  have hpk := b_vs_pos (b_gv_vs hp.2.2.1)
  obtain ⟨i1, i2, i3, i4, i5, i6⟩ := X_op_iff o.2.1
  have hp' := hp.up hF
  have ho' := ho.up hF
  have hpb := hp.nmb
  have hR6 := X_op_R o.2.1
  have hG0 : p.2.2.length + 3 ≤ X_G p (p_sp p.2.1) := by unfold X_G; omega
  have yes : ∀ {P R : Prop}, R → (((1 : Int) = 0 → P) ∧ (¬ (1 : Int) = 0 → R)) := fun h => ⟨fun g => absurd g (by decide), fun _ => h⟩
  have no : ∀ {P R : Prop}, P → (((0 : Int) = 0 → P) ∧ (¬ (0 : Int) = 0 → R)) := fun h => ⟨fun _ => h, fun g => absurd rfl g⟩
  have hnone : ∀ M1, e_fr (R_IN m ch) M M1 → (X_path (X_op o.2.1) p es) = (0, es) → Q 0 M1 := by
    intro M1 f1 h1
    have f1' : e_fr (R_FL m b ch) M M1 := f1.up fun y k hy => R_IN.fl hy
    have h2 := hq M1 f1'
    rw [h1] at h2
    refine h2 fun _ => b_at_keep hd fun k _ _ => f1.2.1 b k fun z => ?_
    rcases z with ⟨z, -⟩ | z
    · exact n1 z.symm
    · exact n2 z.symm
  -- an operator's loose value
  have h163 : ∀ (ee : Int) (M3 : g_M), g_InR ee → e_R M3 m b → (∀ k, k < 922000 → g_i M3 b k = F k) → (∀ M4, e_fr (R_LW m b) M3 M4 → b_at (g_i M4 b) 2606200 p.2.2 → g_i M4 m 4 = 2606200 + p.2.2.length → g_Call (d + 68) 314 [.ref m, g_n ee, g_n p.1] M4 (g_qV fun M13 => g_ext M4 M13 → g_ok M13 → Q 0 M13)) → g_Run (d + 68) 315 163 [(0, .ref m), (1, g_n po), (2, g_n pp), (3, g_n (pp + 1)), (4, g_n (pp + 1 + p.2.1.length)), (5, g_n ee)] [] M3 (g_qI Q) := by
    intro ee M3 heR hR3 hF3 hgo
    refine s_X12_doPath_163 hoR hpR ⟨by omega, by omega⟩ ⟨by omega, by omega⟩ heR fun _ => ⟨hR3.1, e_loose (d := d + 66) hR3 fun M4 f4 W4 => ?_⟩
    intro _ _
    have g4 : e_fr (R_LW m b) M3 M4 := f4.up fun y k hy => Or.inl hy
    have hF4 : ∀ k, k < 922000 → g_i M4 b k = F k := fun k hk => by rw [R_LW.lo n1 g4 (by omega)]; exact hF3 k hk
    refine e_putValue (d := d + 64) W4 (hp.up hF4) (Or.inl (by omega)) fun M5 f5 W5 => ?_
    intro _ _
    have g5 := g4.tr (f5.up fun y k hy => R_LW.wl hy)
    have hF5 : ∀ k, k < 922000 → g_i M5 b k = F k := fun k hk => by rw [R_LW.lo n1 g5 (by omega)]; exact hF3 k hk
    have hkp : g_i M5 b pp = p.1 := (hp.up hF5).val.2.2.2
    rw [List.nil_append] at W5
    obtain ⟨w1, w2⟩ := W5.at (by omega)
    refine ⟨b, W5.1.2.1, _, W5.1.2.2, ⟨by omega, by omega⟩, ?_⟩
    rw [hkp]
    exact hgo M5 g5 w1 w2
  refine m_X12_doPath hoR hpR fun _ => ⟨⟨by omega, by omega⟩, hR.1, e_nameEnd (d := d + 67) hR hp'.nm ?_⟩
  intro _ _ _
  refine e_opIs (d := d + 64) (j := 135) (j2 := 33) (i := 2) (by decide) (by decide) i2 hR ho' ?_
  intro _ _ _
  by_cases h2 : X_op o.2.1 = 2
  · rw [if_pos h2]
    have hXp : X_path (X_op o.2.1) p es = X_take 2 p false es (p_sp p.2.1) := by
      unfold X_path
      rw [if_pos (Or.inl h2), h2]
    rw [hXp] at hq hnone
    refine yes (e_reach (d := d + 60) (op := 2) (p := p) hO hF hd hE hst (by omega) hpb (by omega) rfl (by omega) (fun M1 f1 h1 => ?_) fun c2 e2 es2 D2 x e0 l t M1 f1 hS1 hE2 hD2 hc2 hf0 l1 l2 l3 hsz hw => ?_)
    · intro _ _ _
      exact ⟨fun _ => hnone M1 f1 h1, fun g => absurd rfl g⟩
    · intro _ _ _
      have hge := h_at_ge (c2 ++ [(e2.1, e2.2.1, l, t)]) 921998
      have f1' : e_fr (R_FL m b ch) M M1 := f1.up fun y k hy => R_IN.fl hy
      refine ⟨fun g => absurd g (by omega), fun _ => e_loose (d := d + 66) hS1.1.1 fun M4 f4 W4 => ?_⟩
      intro _ _
      have g4 : e_fr (R_LW m b) M1 M4 := f4.up fun y k hy => Or.inl hy
      have hS4 := hS1.lw g4 (by omega)
      have f4' : e_fr (R_FL m b ch) M M4 := f1'.tr (g4.up fun y k hy => R_LW.fl hy)
      obtain ⟨w1, w2⟩ := W4.at (by decide)
      obtain ⟨hst1, -, -, hhs1, -, -⟩ := hS4.item hE2 l1 (by omega)
      have h14 := hS4.2.2.2.2.2.2.2.2
      have hst5 := hst1.2.2.2.2
      refine ⟨fun g0 => ?_, fun g1 => ?_⟩
      · have hk4 : ¬ e2.1 = 4 := fun z => by rw [if_pos z] at h14; omega
        have hrow : ¬ (e2.1 == 4) = true := fun z => hk4 (eq_of_beq z)
        rw [X_tk_s1 hf0, if_pos rfl, if_neg hrow, l3] at hw
        refine e_behind (d := d + 64) hS4.1.1 hst1.1 hst1.2.1 (b_gv_vs hst1.2.2.1) hst1.2.2.2.1 hst1.2.2.2.2 ?_
        intro _ _ _
        rw [show h_at 921998 (c2 ++ [(e2.1, e2.2.1, l, t)]) + ((b_el e0.1 e0.2.1 e0.2.2).length : Int) - h_at 921998 (c2 ++ [(e2.1, e2.2.1, l, t)]) = ((b_el e0.1 e0.2.1 e0.2.2).length : Int) by omega]
        refine ⟨⟨by omega, by omega⟩, e_unset (d := d + 64) hS4 hE2 l1 (by rw [w2]; rfl) (by omega) (by omega) fun M5 f5 hZ5 => ?_⟩
        intro _ _
        have hfin := hw.fin (B := e_B M5 b) (l := l) (t := t) (mid := []) rfl (by simp) hZ5 (b_nil _ _)
        have h9 := hq M5 (f4'.tr (f5.up fun y k hy => R_WK.fl hy)) fun _ => R_root hfin
        rwa [hw.1] at h9
      · have hk4 : e2.1 = 4 := Classical.byContradiction fun z => g1 (by rw [if_neg z] at h14; exact h14)
        have hrow : (e2.1 == 4) = true := by rw [hk4]; rfl
        rw [X_tk_s1 hf0, if_pos rfl, if_pos hrow, l2] at hw
        refine e_come1 (d := d + 62) (k2 := 10) (x := []) hS4 hE2 l1 (b_nil _ _) w2 (by decide) (by decide) (by show _ + 0 ≤ 15000; omega) fun M5 f5 hZ5 hb5 => ?_
        intro _ _
        rw [← b_ser_1 (10, e0.2.1, [])] at hZ5 hb5
        have hfin := hw.fin (B := e_B M5 b) (l := l) (t := t) (mid := [(10, e0.2.1, [])]) rfl (by simp) hZ5 hb5
        have h9 := hq M5 (f4'.tr (f5.up fun y k hy => R_WK.fl hy)) fun _ => R_root hfin
        rwa [hw.1] at h9
  rw [if_neg h2]
  refine no (e_opIs (d := d + 64) (j := 137) (j2 := 36) (i := 5) (by decide) (by decide) i5 hR ho' ?_)
  intro _ _ _
  by_cases h5 : X_op o.2.1 = 5
  · rw [if_pos h5]
    have hXp : X_path (X_op o.2.1) p es = X_take 5 p false es (p_sp p.2.1) := by
      unfold X_path
      rw [if_pos (Or.inr h5), h5]
    rw [hXp] at hq hnone
    refine yes (e_reach (d := d + 60) (op := 5) (p := p) hO hF hd hE hst (by omega) hpb (by omega) rfl (by omega) (fun M1 f1 h1 => ?_) fun c2 e2 es2 D2 x e0 l t M1 f1 hS1 hE2 hD2 hc2 hf0 l1 l2 l3 hsz hw => ?_)
    · intro _ _ _
      exact ⟨fun _ => hnone M1 f1 h1, fun g => absurd rfl g⟩
    · intro _ _ hzR
      have hge := h_at_ge (c2 ++ [(e2.1, e2.2.1, l, t)]) 921998
      have f1' : e_fr (R_FL m b ch) M M1 := f1.up fun y k hy => R_IN.fl hy
      obtain ⟨hst1, -, -, hhs1, -, -⟩ := hS1.item hE2 l1 (by omega)
      have hst5 := hst1.2.2.2.2
      have hel0 := b_el_len e0.1 e0.2.1 e0.2.2
      have hhs0 := h_hs_ge (b_el e0.1 e0.2.1 e0.2.2).length (c2 ++ [(e2.1, e2.2.1, l, t)])
      have hgd0 := hE2.2.2.2.1 e0 (by rw [l1]; simp)
      refine ⟨fun g => absurd g (by omega), fun _ => ?_⟩
      rw [X_tk_s1 hf0, if_neg (by decide)] at hw
      by_cases gk : e0.1 = 4
      · rw [if_pos gk, l2] at hw
        obtain ⟨D1, hD1, hE0⟩ := X_E.mk hgd0.1 hgd0.2 (Or.inr gk)
        have hdl0 := congrArg List.length hE0.2.2.1
        rw [b_doc_len] at hdl0
        have hmany := b_ser_many (b_ch e0.2.2)
        have hrn : X_rn true (b_ch e0.2.2) := by
          have := hE0.2.2.2.2
          rwa [show (e0.1 == 4) = true by rw [gk]; rfl] at this
        refine e_pull (d := d) hS1 hE2 hD2 l1 gk (by omega) hp (by omega) ((X_num_ok hE0.2.2.2.1 (by omega)).le (by omega)) (X_num_ser _ 0 0 (Nat.le_refl _) (by omega) fun n e he => ?_) fun M5 f5 hZ5 hb5 => ?_
        · rw [Nat.zero_add]
          exact hrn rfl n e he
        · intro _ _ _
          rw [← b_ser_1 (4, e0.2.1, b_doc (X_num 0 ((b_ch e0.2.2).filter fun y => !F_eq y p)))] at hZ5 hb5
          have hfin := hw.fin (B := e_B M5 b) (l := l) (t := t) (mid := [(4, e0.2.1, b_doc (X_num 0 ((b_ch e0.2.2).filter fun y => !F_eq y p)))]) rfl (by simp) hZ5 hb5
          have h9 := hq M5 (f1'.tr f5) fun _ => R_root hfin
          rwa [hw.1] at h9
      · rw [if_neg gk] at hw
        refine m_X12_pull hzR hpR fun _ => ⟨hS1.1.1.1, b, hS1.1.1.2.1, _, hS1.1.1.2.2, ⟨by omega, by omega⟩, ?_⟩
        rw [hst1.val.2.2.2]
        refine ⟨fun g => absurd g gk, fun _ => ?_⟩
        intro _ _ _
        have h9 := hq M1 f1' fun z => absurd (hw.1.symm.trans z) (show ¬ (7 : Int) = 0 by decide)
        rwa [hw.1] at h9
  rw [if_neg h5]
  obtain ⟨op, hope⟩ : ∃ op, op = X_op o.2.1 := ⟨_, rfl⟩
  have hXp : X_path (X_op o.2.1) p es = X_make op p false es (p_sp p.2.1) := by
    unfold X_path
    rw [if_neg fun z => z.elim h2 h5, hope]
  rw [hXp] at hq hnone
  have hq9 : ∀ {f : Int} {M1 : g_M}, (X_make op p false es (p_sp p.2.1)).1 = f → f ≠ 0 → e_fr (R_FL m b ch) M M1 → Q f M1 := fun h1 h2 f1 => by
    have := hq _ f1 fun z => absurd (h1.symm.trans z) h2
    rwa [h1] at this
  refine no (e_make (d := d + 60) (op := op) (p := p) hO hF hd hE hst (Nat.le_refl _) hp.2.1 hmx hpb (by omega) rfl (by omega) (fun M1 f1 h1 => ?_) ?_ ?_)
  · intro _ _ _
    exact ⟨fun _ => hq9 h1 (by decide) f1, fun g => absurd rfl g⟩
  · -- something is there
    intro c2 e2 es2 D2 x e0 l t M1 f1 hS1 hE2 hD2 hc2 hf0 l1 l2 hsz hw
    intro _ _ hzR
    have hge := h_at_ge (c2 ++ [(e2.1, e2.2.1, l, t)]) 921998
    rw [X_G_one] at hsz
    obtain ⟨hst1, hZi, hbi, hhs1, -, -⟩ := hS1.item hE2 l1 (by omega)
    have hst5 := hst1.2.2.2.2
    have hel0 := b_el_len e0.1 e0.2.1 e0.2.2
    have hhs0 := h_hs_ge (b_el e0.1 e0.2.1 e0.2.2).length (c2 ++ [(e2.1, e2.2.1, l, t)])
    have hgd0 := hE2.2.2.2.1 e0 (by rw [l1]; simp)
    have hR1 := hS1.1.1
    have hF1 := hS1.2.1
    have ho1 := ho.up hF1
    have hp1 := hp.up hF1
    rw [X_mk_s1 hf0] at hw
    have hfin : ∀ (E2 : b_E) (M5 : g_M), (0, E2) = X_last op p x (some e0) → e_fr (R_FL m b ch) M M5 → h_Z (e_B M5 b) (b_el E2.1 E2.2.1 E2.2.2).length 921998 (c2 ++ [(e2.1, e2.2.1, l, t)]) → b_at (e_B M5 b) (h_at 921998 (c2 ++ [(e2.1, e2.2.1, l, t)])) (b_el E2.1 E2.2.1 E2.2.2) → Q 0 M5 := by
      intro E2 M5 hE5 f5 hZ5 hb5
      rw [← hE5, l2] at hw
      rw [← b_ser_1 E2] at hZ5 hb5
      have h8 := hw.fin (B := e_B M5 b) (l := l) (t := t) (mid := [E2]) rfl (by simp) hZ5 hb5
      have h9 := hq M5 f5 fun _ => R_root h8
      rwa [hw.1] at h9
    have hbad : ∀ {f : Int} {M5 : g_M}, (X_last op p x (some e0)).1 = f → f ≠ 0 → e_fr (R_FL m b ch) M M5 → Q f M5 := fun h1 h2 f5 => hq9 (hw.1.trans h1) h2 f5
    refine ⟨fun g => absurd g (by omega), fun _ => e_opIs (d := d + 64) (j := 134) (j2 := 32) (i := 1) (by decide) (by decide) i1 hR1 ho1 ?_⟩
    intro _ _ _
    by_cases h1 : X_op o.2.1 = 1
    · rw [if_pos h1]
      refine yes (h163 _ M1 hzR hR1 hF1 fun M4 g4 w1 w2 => ?_)
      have hS4 := hS1.lw g4 (by omega)
      refine e_come1 (d := d + 62) hS4 hE2 l1 w1 w2 (by omega) (by omega) (by omega) fun M5 f5 hZ5 hb5 => ?_
      intro _ _
      refine hfin (p.1, e0.2.1, p.2.2) M5 ?_ ((f1.tr (g4.up fun y k hy => R_LW.fl hy)).tr (f5.up fun y k hy => R_WK.fl hy)) hZ5 hb5
      exact (if_pos (hope.trans h1)).symm
    rw [if_neg h1]
    have hop1 : ¬ op = 1 := fun z => h1 (hope.symm.trans z)
    refine no ⟨fun g => absurd g (by omega), fun _ => s_X12_doPath_186 hoR hpR ⟨by omega, by omega⟩ ⟨by omega, by omega⟩ hzR fun _ => ⟨hR1.1, e_opIs (d := d + 64) (j := 136) (j2 := 34) (i := 3) (by decide) (by decide) i3 hR1 ho1 ?_⟩⟩
    intro _ _ _
    by_cases h3 : X_op o.2.1 = 3
    · rw [if_pos h3]
      have hX3 : X_last op p x (some e0) = X_inc e0 p := (if_neg hop1).trans (if_pos (hope.trans h3))
      refine yes ?_
      by_cases hk : e0.1 = 16 ∨ e0.1 = 18
      · refine e_add (d := d + 60) (Dp := 20) hS1 hE2 l1 hk hp (hpn h3) (fun Q1 hQ1 => e_isNumR (d := d + 66) hR1 hst1 (by rw [if_pos hk]; exact hQ1)) (by omega) fun M5 f5 h5' => ?_
        intro _ _ _
        by_cases hR0 : (X_inc e0 p).1 = 0
        · obtain ⟨a1, a2⟩ := h5' hR0
          rw [hR0]
          refine hfin (X_inc e0 p).2 M5 ?_ (f1.tr f5) a1 a2
          rw [hX3, ← hR0]
        · exact hbad (by rw [hX3]) hR0 (f1.tr f5)
      · refine m_X12_add hzR hpR fun _ => ⟨hR1.1, e_isNumR (d := d + 66) hR1 hst1 ?_⟩
        rw [if_neg hk]
        intro _ _ _
        refine ⟨fun _ => ?_, fun g => absurd rfl g⟩
        intro _ _ _
        refine hbad ?_ (by decide) f1
        rw [hX3]
        unfold X_inc
        rw [if_neg hk]
    rw [if_neg h3]
    have hop3 : ¬ op = 3 := fun z => h3 (hope.symm.trans z)
    have hX4 : X_last op p x (some e0) = if e0.1 = 4 then (if (op == 6 && (b_ch e0.2.2).any fun y => F_eq y p) = true then (0, e0) else (0, (4, e0.2.1, b_doc (b_ch e0.2.2 ++ [(p.1, b_dg (b_ch e0.2.2).length, p.2.2)])))) else (7, e0) := by
      show (if op = 1 then _ else _) = _
      rw [if_neg hop1, if_neg hop3]
    refine no (e_opIs (d := d + 64) (j := 119) (j2 := 37) (i := 6) (by decide) (by decide) i6 hR1 ho1 ?_)
    intro _ _ _
    have hw3 : ∀ w3 : Int, w3 = (if X_op o.2.1 = 6 then 1 else 0) → g_Call (d + 68) 317 [.ref m, g_n (h_at 921998 (c2 ++ [(e2.1, e2.2.1, l, t)])), g_n pp, g_n w3] M1 (g_qI fun r15 M12 => g_ext M1 M12 → g_ok M12 → g_InR r15 → Q r15 M12) := by
      intro w3 hw3
      have hw01 : w3 = 0 ∨ w3 = 1 := by
        rw [hw3]
        split
        · exact Or.inr rfl
        · exact Or.inl rfl
      have hweq : (w3 == 1) = (op == 6) := by
        rw [hw3, hope]
        by_cases g : X_op o.2.1 = 6
        · rw [if_pos g, g]; rfl
        · rw [if_neg g, beq_false_of_ne g]; rfl
      by_cases gk : e0.1 = 4
      · rw [if_pos gk] at hX4
        refine e_push1 (d := d) hw01 hS1 hE2 hD2 l1 gk (by omega) hp (by omega) fun M5 f5 E2 hE2' hZ5 hb5 => ?_
        intro _ _ _
        refine hfin E2 M5 ?_ (f1.tr f5) hZ5 hb5
        rw [hX4, hE2', hweq]
        split <;> rfl
      · rw [if_neg gk] at hX4
        refine m_X12_push hzR hpR (by rcases hw01 with g | g <;> rw [g] <;> exact ⟨by decide, by decide⟩) fun _ => ⟨fun g => absurd g (by omega), fun _ => ⟨hR1.1, b, hR1.2.1, _, hR1.2.2, ⟨by omega, by omega⟩, ?_⟩⟩
        rw [hst1.val.2.2.2]
        refine ⟨fun g => absurd g gk, fun _ => ?_⟩
        intro _ _ _
        exact hbad (by rw [hX4]) (by decide) f1
    exact hw3 _ rfl
  · -- a free place
    intro c2 e2 es2 D2 x q2 M1 f1 hS1 hE2 hD2 hc2 hf0 hrow hxq hq0 hq9' e15 e16 hsz hw
    intro _ _ _
    rw [X_G_one] at hsz
    have hR1 := hS1.1.1
    have hF1 := hS1.2.1
    have ho1 := ho.up hF1
    have hp1 := hp.up hF1
    rw [X_mk_n1 hf0 hrow] at hw
    have hfin : ∀ (E2 : b_E) (M5 : g_M), E2 = (X_last op p x none).2 → e_fr (R_FL m b ch) M M5 → h_Z (e_B M5 b) (b_el E2.1 E2.2.1 E2.2.2).length 921998 (c2 ++ [(e2.1, e2.2.1, es2, [])]) → b_at (e_B M5 b) (h_at 921998 (c2 ++ [(e2.1, e2.2.1, es2, [])])) (b_el E2.1 E2.2.1 E2.2.2) → Q 0 M5 := by
      intro E2 M5 hE5 f5 hZ5 hb5
      rw [← hE5] at hw
      rw [← b_ser_1 E2] at hZ5 hb5
      have h8 := hw.fin (B := e_B M5 b) (l := es2) (t := []) (mid := [E2]) rfl (by simp) hZ5 hb5
      have h9 := hq M5 f5 fun _ => R_root h8
      rwa [hw.1] at h9
    have hset : ¬ (op = 4 ∨ op = 6) → g_Run (d + 68) 315 163 [(0, .ref m), (1, g_n po), (2, g_n pp), (3, g_n (pp + 1)), (4, g_n (pp + 1 + p.2.1.length)), (5, g_n (-1))] [] M1 (g_qI Q) := by
      intro hno
      refine h163 _ M1 ⟨by decide, by decide⟩ hR1 hF1 fun M4 g4 w1 w2 => ?_
      have hS4 := hS1.lw g4 (by omega)
      have hx4 : b_at (g_i M4 b) q2 x := b_at_keep hxq fun k k1 k2 => hS4.2.1 k (by omega)
      refine e_come0 (d := d + 62) hS4 hE2.2.2.1 w1 w2 hx4 hq0 hq9' (by rw [R_LW.mk n1 g4 (by omega)]; exact e15) (by rw [R_LW.mk n1 g4 (by omega)]; exact e16) (by omega) (by omega) (by omega) fun M5 f5 hZ5 hb5 => ?_
      intro _ _
      refine hfin (p.1, x, p.2.2) M5 ?_ ((f1.tr (g4.up fun y k hy => R_LW.fl hy)).tr f5) hZ5 hb5
      unfold X_last
      rw [if_neg hno]
    refine ⟨fun g => absurd g (by decide), fun _ => e_opIs (d := d + 64) (j := 134) (j2 := 32) (i := 1) (by decide) (by decide) i1 hR1 ho1 ?_⟩
    intro _ _ _
    by_cases h1 : X_op o.2.1 = 1
    · rw [if_pos h1]
      exact yes (hset (by omega))
    rw [if_neg h1]
    refine no ⟨fun _ => e_opIs (d := d + 64) (j := 136) (j2 := 34) (i := 3) (by decide) (by decide) i3 hR1 ho1 ?_, fun g => absurd rfl g⟩
    intro _ _ _
    by_cases h3 : X_op o.2.1 = 3
    · rw [if_pos h3]
      exact yes (hset (by omega))
    rw [if_neg h3]
    refine no (s_X12_doPath_186 hoR hpR ⟨by omega, by omega⟩ ⟨by omega, by omega⟩ ⟨by decide, by decide⟩ fun _ => ⟨hR1.1, e_opIs (d := d + 64) (j := 136) (j2 := 34) (i := 3) (by decide) (by decide) i3 hR1 ho1 ?_⟩)
    intro _ _ _
    rw [if_neg h3]
    refine no (e_opIs (d := d + 64) (j := 119) (j2 := 37) (i := 6) (by decide) (by decide) i6 hR1 ho1 ?_)
    intro _ _ hw3R
    refine e_push0 (d := d + 61) hS1 hE2.2.2.1 hp (b_at_keep hxq fun k k1 k2 => hF1 k (by omega)) hq0 hq9' e15 e16 hw3R (by omega) fun M5 f5 hZ5 hb5 => ?_
    intro _ _ _
    refine hfin (4, x, b_doc [(p.1, b_dg 0, p.2.2)]) M5 ?_ (f1.tr f5) hZ5 hb5
    unfold X_last
    rw [if_pos (by omega)]
end RPATH
