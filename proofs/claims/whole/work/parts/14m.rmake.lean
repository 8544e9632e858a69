/-! CHANGES: the reference makes a path -/
theorem L_fn_row {s : List Int} {es : List b_E} (hn : X_rn true es) (hl : es.length ≤ 10000) : (∀ n : Nat, n < es.length → s = b_dg n → L_fn s es ≠ none) ∧ ((∀ n : Nat, n < es.length → s ≠ b_dg n) → L_fn s es = none) := by
  have hrow := L_find_row (s := s) es 0 0 (fun i f hf => by rw [Nat.zero_add]; exact hn rfl i f hf) (by omega)
  have hfn := L_find_fn s es 0
  constructor
  · intro n hnl hs
    have h1 := hrow.1 n (by omega) (Nat.zero_le _) hs
    rw [h1, Nat.sub_zero] at hfn
    rw [← hfn]
    have hlt : n < (L_at 0 es).length := by rw [L_at_len]; exact hnl
    rw [List.getElem?_eq_getElem hlt]
    simp
  · intro hno
    rcases hf : L_fn s es with _ | e0
    · rfl
    · obtain ⟨h1, h2⟩ := L_fn_mem hf
      obtain ⟨i, hi⟩ := List.getElem?_of_mem h1
      have h3 := hn rfl i e0 hi
      have h4 := (List.getElem?_eq_some_iff.mp hi).1
      exact absurd (h2.symm.trans h3) (hno i h4)
section RMAKE
variable {d m b ch : Nat} {F : Int → Int} {M M1 : g_M} {c : List h_F} {e e1 p : b_E} {es l t : List b_E} {Q : Int → g_M → Prop}
/-- the element that has come behind the others is what the reference is in then -/
theorem R_St.app {s : List Int} {k2 : Int} {x : List Int} (h : R_St F m b ch c e M) (he : e.2.2 = b_doc es) (f : e_fr (fun y k => R_WK b y k ∨ R_LW m b y k ∨ (y = m ∧ (k = 15 ∨ k = 16))) M M1) (hZ : h_Z (e_B M1 b) (b_el k2 s x).length 921998 (c ++ [(e.1, e.2.1, es, [])])) (hb : b_at (e_B M1 b) (h_at 921998 (c ++ [(e.1, e.2.1, es, [])])) (b_el k2 s x)) : R_St F m b ch c (e.1, e.2.1, b_doc (es ++ [(k2, s, x)])) M1 := by
  obtain ⟨hO, hF, hcl, hrt, hZ0, hat, h13, hch, h14⟩ := h
  obtain ⟨n1, n2, n3⟩ := hO.ne
  obtain ⟨a1, a2⟩ := (h_in (B := e_B M1 b) (c := c) (f := (e.1, e.2.1, es, [])) (p := 921998) (mid := [(k2, s, x)])).mpr ⟨by rw [b_ser_1]; exact hZ, by rw [b_ser_1]; exact hb⟩
  have a1' : h_Z (e_B M1 b) (b_el e.1 e.2.1 (b_doc (es ++ [(k2, s, x)] ++ []))).length 921998 c := a1
  have a2' : b_at (e_B M1 b) (h_at 921998 c) (b_el e.1 e.2.1 (b_doc (es ++ [(k2, s, x)] ++ []))) := a2
  rw [List.append_nil] at a1' a2'
  have hm : ∀ k, (k = 13 ∨ k = 14) → g_i M1 m k = g_i M m k := fun k hk => f.2.1 m k fun z => by
    rcases z with ⟨z, -⟩ | (⟨-, z⟩ | ⟨z, -⟩) | ⟨-, z⟩
    · exact n1 z
    · omega
    · exact n1 z
    · omega
  refine ⟨hO.fr f, fun k hk => ?_, hcl, hrt, a1', a2', by rw [hm 13 (Or.inl rfl)]; exact h13, b_at_keep hch fun k _ _ => f.2.1 ch k fun z => ?_, by rw [hm 14 (Or.inr rfl)]; exact h14⟩
  · rw [f.2.1 b k fun z => ?_]
    · exact hF k hk
    · rcases z with ⟨-, z, -⟩ | (⟨z, -⟩ | ⟨-, z, -⟩) | ⟨z, -⟩
      · omega
      · exact n1 z.symm
      · omega
      · exact n1 z.symm
  · rcases z with ⟨z, -⟩ | (⟨z, -⟩ | ⟨z, -⟩) | ⟨z, -⟩
    · exact n2 z
    · exact n3 z.symm
    · exact n2 z
    · exact n3 z.symm
/-- what is told of the place that a path leads to -/
def R_some (F : Int → Int) (m b ch : Nat) (op : Int) (p : b_E) (c : List h_F) (e : b_E) (D : Nat) (Z : Nat) (X : Int × List b_E) (M : g_M) (Q : Int → g_M → Prop) : Prop := ∀ (c2 : List h_F) (e2 : b_E) (es2 : List b_E) (D2 : Nat) (x : List Int) (e0 : b_E) (l t : List b_E) (M1 : g_M), e_fr (R_FL m b ch) M M1 → R_St F m b ch c2 e2 M1 → X_E D2 e2 es2 → D2 ≤ D → c2.length ≤ 8 → L_fn x es2 = some e0 → es2 = l ++ e0 :: t → (∀ e3, X_rep x e3 es2 = l ++ e3 :: t) → h_hs (b_el e2.1 e2.2.1 e2.2.2).length c2 + X_G p [x] ≤ Z → R_way c e c2 e2 X (X_make op p (e2.1 == 4) es2 [x]) → Q (h_at 921998 (c2 ++ [(e2.1, e2.2.1, l, t)])) M1
def R_free (F : Int → Int) (m b ch : Nat) (op : Int) (p : b_E) (c : List h_F) (e : b_E) (D : Nat) (Z : Nat) (X : Int × List b_E) (M : g_M) (Q : Int → g_M → Prop) : Prop := ∀ (c2 : List h_F) (e2 : b_E) (es2 : List b_E) (D2 : Nat) (x : List Int) (q2 : Int) (M1 : g_M), e_fr (R_FL m b ch) M M1 → R_St F m b ch c2 e2 M1 → X_E D2 e2 es2 → D2 ≤ D → c2.length ≤ 8 → L_fn x es2 = none → ((e2.1 == 4) = true → x = b_dg es2.length) → b_at F q2 x → 0 ≤ q2 → q2 + x.length ≤ 900000 → g_i M1 m 15 = q2 → g_i M1 m 16 = q2 + x.length → h_hs (b_el e2.1 e2.2.1 e2.2.2).length c2 + X_G p [x] ≤ Z → R_way c e c2 e2 X (X_make op p (e2.1 == 4) es2 [x]) → Q (-1) M1
theorem e_makeL {op v1 to : Int} (hv1 : g_InR v1) : ∀ (n : Nat) (y : List Int) (q : Int) (c : List h_F) (e : b_E) (es : List b_E) (D : Nat) (M : g_M), (p_sp y).length ≤ n → R_St F m b ch c e M → X_E D e es → c.length + (p_sp y).length ≤ 9 → 22 + (p_sp y).length ≤ D → h_hs (b_el e.1 e.2.1 e.2.2).length c + X_G p (p_sp y) ≤ 14900 → (∀ s ∈ p_sp y, b_nz s) → b_at F q y → 0 ≤ q → q + y.length = to → to ≤ 900000 → (∀ M1, e_fr (R_FL m b ch) M M1 → (X_make op p (e.1 == 4) es (p_sp y)).1 = 6 → Q (-2) M1) → R_some F m b ch op p c e D (h_hs (b_el e.1 e.2.1 e.2.2).length c + X_G p (p_sp y)) (X_make op p (e.1 == 4) es (p_sp y)) M Q → R_free F m b ch op p c e D (h_hs (b_el e.1 e.2.1 e.2.2).length c + X_G p (p_sp y)) (X_make op p (e.1 == 4) es (p_sp y)) M Q → g_Run (d + 7) 312 6 [(0, .ref m), (1, g_n v1), (2, g_n to), (3, g_n q)] [] M (g_qI Q) := by
  intro n
  induction n with
  | zero =>
    intro y q c e es D M hn
    have := p_sp_pos y
    omega
  | succ n ih =>
    intro y q c e es D M hn hSt hE hcl hD hmx hnz hy h0 hto hto9 hqn hqs hqf
    obtain ⟨hO, hF, -⟩ := id hSt
    obtain ⟨n1, n2, n3⟩ := hO.ne
    have hR := hO.1
    have h14 := hSt.2.2.2.2.2.2.2.2
    have h13 := hSt.2.2.2.2.2.2.1
    have hyM : b_at (g_i M b) q y := b_at_keep hy fun k k1 k2 => hF k (by omega)
    have hsp := p_sp_eq y
    have hhd : p_hd y ++ (match p_tl y with | none => [] | some z => 46 :: z) = y := by
      rcases p_hd_tl y with ⟨g1, g2⟩ | ⟨z, g1, g2⟩
      · rw [g1, List.append_nil]
        exact g2
      · rw [g1]
        exact g2.symm
    have hhl : (p_hd y).length ≤ y.length := by
      have := congrArg List.length hhd
      rw [List.length_append] at this
      omega
    have hxF : b_at F q (p_hd y) := by
      rw [← hhd] at hy
      exact (b_app.mp hy).1
    have hxM : b_at (g_i M b) q (p_hd y) := b_at_keep hxF fun k k1 k2 => hF k (by omega)
    have hxnz : b_nz (p_hd y) := hnz _ (by rw [hsp]; simp)
    subst hto
    have hel := b_el_len e.1 e.2.1 e.2.2
    have hdl := congrArg List.length hE.2.2.1
    rw [b_doc_len] at hdl
    have hhs := h_hs_ge (b_el e.1 e.2.1 e.2.2).length c
    have hmany := b_ser_many es
    obtain ⟨hno, hso⟩ := L_opt_fn (x := p_hd y) (es := es) (h_at 921998 c + 2 + e.2.1.length + 4)
    have hGr : ∃ r, p_sp y = p_hd y :: r ∧ X_G p (p_sp y) = (p_hd y).length + 7 + X_G p r ∧ p.2.2.length + 3 ≤ X_G p r := ⟨_, hsp, by rw [hsp]; exact X_G_cons p _ _, by unfold X_G; omega⟩
    obtain ⟨r, hr1, hr2, hr3⟩ := hGr
    have hG1 : X_G p [p_hd y] = (p_hd y).length + 7 + (p.2.2.length + 3) := by
      rw [X_G_cons]
      unfold X_G
      simp
    have hG1' : X_G p [p_hd y] ≤ X_G p (p_sp y) := by omega
    -- behind the tests of a row
    have h69 : ∀ w5 : Int, g_InR w5 → (e.1 = 4 → L_fn (p_hd y) es = none → p_hd y = b_dg es.length) → g_Run (d + 7) 312 69 [(0, .ref m), (1, g_n v1), (2, g_n (q + y.length)), (3, g_n q), (4, g_n (q + (p_hd y).length)), (5, g_n w5)] [] M (g_qI Q) := by
      intro w5 hw5 hrow
      refine s_X12_make_69 hv1 ⟨by omega, by omega⟩ ⟨by omega, by omega⟩ ⟨by omega, by omega⟩ hw5 fun _ => ⟨hR.1, e_meet (d := d + 1) hSt hE (by omega) hxM h0 (by omega) ?_⟩
      intro _ _ hzR
      rintro M7 rfl _ M11 rfl _
      have f11 : e_fr (fun y k => y = m ∧ (k = 15 ∨ k = 16)) M (g_wi (g_wi M m 15 q) m 16 (q + (p_hd y).length)) := (e_fr.wi _ ⟨rfl, Or.inl rfl⟩).tr (e_fr.wi _ ⟨rfl, Or.inr rfl⟩)
      have g11 : e_fr (R_FL m b ch) M (g_wi (g_wi M m 15 q) m 16 (q + (p_hd y).length)) := f11.up fun y k hy => Or.inl ⟨hy.1, Or.inr (by have := hy.2; omega)⟩
      have hS11 : R_St F m b ch c e (g_wi (g_wi M m 15 q) m 16 (q + (p_hd y).length)) := hSt.fr (f11.up fun y k hy => Or.inl ⟨hy.1, by have := hy.2; omega, by have := hy.2; omega⟩) (by omega)
      have e15 : g_i (g_wi (g_wi M m 15 q) m 16 (q + (p_hd y).length)) m 15 = q := by
        rw [g_i_wi, if_neg (by omega), g_i_wi, if_pos ⟨rfl, rfl⟩]
      have e16 : g_i (g_wi (g_wi M m 15 q) m 16 (q + (p_hd y).length)) m 16 = q + (p_hd y).length := by rw [g_i_wi, if_pos ⟨rfl, rfl⟩]
      generalize hM11 : g_wi (g_wi M m 15 q) m 16 (q + (p_hd y).length) = M11 at *
      -- into an element, and on
      have h141 : ∀ (z : List Int) (e0 : b_E) (l t : List b_E) (e' : b_E) (es' : List b_E) (M3 : g_M) (r3 : Int), p_tl y = some z → e'.1 = e.1 → e'.2.1 = e.2.1 → r3 = h_at 921998 (c ++ [(e.1, e.2.1, l, t)]) → R_St F m b ch c e' M3 → X_E D e' es' → es' = l ++ e0 :: t → h_hs (b_el e'.1 e'.2.1 e'.2.2).length c + X_G p (p_sp z) ≤ h_hs (b_el e.1 e.2.1 e.2.2).length c + X_G p (p_sp y) → e_fr (R_FL m b ch) M M3 → (e0.1 = 3 ∨ e0.1 = 4 → (X_make op p (e.1 == 4) es (p_sp y)).1 = (X_make op p (e0.1 == 4) (b_ch e0.2.2) (p_sp z)).1 ∧ (X_make op p (e.1 == 4) es (p_sp y)).2 = l ++ (e0.1, e0.2.1, b_doc (X_make op p (e0.1 == 4) (b_ch e0.2.2) (p_sp z)).2) :: t) → (¬ (e0.1 = 3 ∨ e0.1 = 4) → (X_make op p (e.1 == 4) es (p_sp y)).1 = 6) → g_Run (d + 7) 312 141 [(0, .ref m), (1, g_n v1), (2, g_n (q + y.length)), (3, g_n q), (4, g_n (q + (p_hd y).length)), (5, g_n w5), (6, g_n r3)] [] M3 (g_qI Q) := by
        intro z e0 l t e' es' M3 r3 hz he1 he2 hr3' hS3 hE3 l1 hmx3 f3 hyes hnope
        have g2 : y = p_hd y ++ 46 :: z := by
          rcases p_hd_tl y with ⟨g1, -⟩ | ⟨z', g1, g2⟩
          · rw [g1] at hz
            exact absurd hz (by simp)
          · rw [g1] at hz
            rw [← Option.some.inj hz]
            exact g2
        have hzl := congrArg List.length g2
        rw [List.length_append, List.length_cons] at hzl
        have hspz := p_sp_some hz
        have hspl := congrArg List.length hspz
        rw [List.length_cons] at hspl
        have hzp := p_sp_pos z
        have hzF : b_at F (q + (p_hd y).length + 1) z := by
          rw [g2] at hy
          exact (b_cons.mp (b_app.mp hy).2).2
        have hr3'' : r3 = h_at 921998 (c ++ [(e'.1, e'.2.1, l, t)]) := by rw [he1, he2]; exact hr3'
        obtain ⟨hst1, hZ1, hat1, hhs1, -, hge1⟩ := hS3.item hE3 l1 (by omega)
        obtain ⟨v1', v2', v3', hkd⟩ := hst1.val
        have hst5 := hst1.2.2.2.2
        have hel1 := b_el_len e0.1 e0.2.1 e0.2.2
        have hgd0 := hE3.2.2.2.1 e0 (by rw [l1]; simp)
        have hR3 := hS3.1.1
        have hgo : e0.1 = 3 ∨ e0.1 = 4 → ∀ M17, e_fr (fun y k => (y = m ∧ (k = 13 ∨ k = 14)) ∨ y = ch) M3 M17 → R_St F m b ch (c ++ [(e'.1, e'.2.1, l, t)]) e0 M17 → g_Run (d + 7) 312 6 [(0, .ref m), (1, g_n v1), (2, g_n (q + y.length)), (3, g_n (q + (p_hd y).length + 1))] [] M17 (g_qI Q) := by
          intro hk M17 f17 hS17
          have f17' : e_fr (R_IN m ch) M3 M17 := f17
          have f17'' : e_fr (R_FL m b ch) M M17 := f3.tr (f17'.up fun y k hy => R_IN.fl hy)
          obtain ⟨D1, hD1, hE1⟩ := X_E.mk hgd0.1 hgd0.2 hk
          obtain ⟨x1, x2⟩ := hyes hk
          rw [he1, he2] at hS17
          have hhs1' : h_hs (b_el e0.1 e0.2.1 e0.2.2).length (c ++ [(e.1, e.2.1, l, t)]) = h_hs (b_el e'.1 e'.2.1 e'.2.2).length c := by rw [← he1, ← he2]; exact hhs1
          refine ih z _ _ e0 (b_ch e0.2.2) D1 M17 (by omega) hS17 hE1 (by rw [List.length_append, List.length_singleton]; omega) (by omega) (by omega) (fun s hs => hnz s (by rw [hspz]; exact List.mem_cons_of_mem _ hs)) hzF (by omega) (by omega) (by omega) ?_ ?_ ?_
          · intro M1 f1 h1
            exact hqn M1 (f17''.tr f1) (x1.trans h1)
          · intro c2 e2 es2 D2 x e3 l2' t2' M1 f1 hS1 hE2 hD2 hc2 hf3 a1 a2 a4 hw
            exact hqs c2 e2 es2 D2 x e3 l2' t2' M1 (f17''.tr f1) hS1 hE2 (by omega) hc2 hf3 a1 a2 (by omega) (hw.inn x1 x2)
          · intro c2 e2 es2 D2 x q2 M1 f1 hS1 hE2 hD2 hc2 hf3 a1 a2 a3 a4 a5 a6 a7 hw
            exact hqf c2 e2 es2 D2 x q2 M1 (f17''.tr f1) hS1 hE2 (by omega) hc2 hf3 a1 a2 a3 a4 a5 a6 (by omega) (hw.inn x1 x2)
        have hrR : g_InR r3 := by rw [hr3'']; exact hst1.R (by decide)
        refine s_X12_make_141 hv1 ⟨by omega, by omega⟩ ⟨by omega, by omega⟩ ⟨by omega, by omega⟩ hw5 hrR fun _ => ⟨hR3.1, b, hR3.2.1, _, hR3.2.2, by rw [hr3'']; exact ⟨by omega, by omega⟩, ?_⟩
        rw [hr3'', hkd]
        refine ⟨fun g => e_into (d := d + 4) hS3 hE3 l1 (Or.inl g) (by omega) (by omega) fun M17 f17 hS17 => ?_, fun g3 => ⟨b, hR3.2.1, _, hR3.2.2, ⟨by omega, by omega⟩, ?_⟩⟩
        · intro _ _
          exact ⟨⟨by omega, by omega⟩, hgo (Or.inl g) M17 f17 hS17⟩
        · rw [hkd]
          refine ⟨fun g => e_into (d := d + 4) hS3 hE3 l1 (Or.inr g) (by omega) (by omega) fun M17 f17 hS17 => ?_, fun g4 => hqn M3 f3 (hnope fun z => z.elim g3 g4)⟩
          intro _ _
          exact ⟨⟨by omega, by omega⟩, hgo (Or.inr g) M17 f17 hS17⟩
      rcases hf0 : L_fn (p_hd y) es with _ | e0
      · have hrow2 : (e.1 == 4) = true → p_hd y = b_dg es.length := fun hb => hrow (eq_of_beq hb) hf0
        have hlo : L_opt none = -1 := rfl
        rw [hno hf0, hlo]
        refine ⟨fun gl => ?_, fun gl => ⟨fun _ => ?_, fun g => absurd rfl g⟩⟩
        · refine hqf c e es D (p_hd y) q M11 g11 hS11 hE (Nat.le_refl _) (by have := p_sp_pos y; omega) hf0 hrow2 hxF h0 (by omega) e15 e16 (by omega) ?_
          rcases p_hd_tl y with ⟨g1, g2⟩ | ⟨z, g1, g2⟩
          · rw [p_sp_none g1]
            exact R_way.rf
          · have := congrArg List.length g2
            rw [List.length_append, List.length_cons] at this
            omega
        · rcases p_hd_tl y with ⟨g1, g2⟩ | ⟨z, g1, g2⟩
          · rw [g2] at gl
            exact absurd rfl gl
          · have hspz := p_sp_some g1
            obtain ⟨s2, r2, hsr⟩ : ∃ s r, p_sp z = s :: r := ⟨_, _, p_sp_eq z⟩
            have hmk := X_mk_n2 (op := op) (p := p) (row := (e.1 == 4)) (y := s2) (r := r2) hf0 hrow2
            refine e_loose (d := d + 5) hS11.1.1 fun M15 f15 W15 => ?_
            intro _ _
            have g15 : e_fr (R_LW m b) M11 M15 := f15.up fun y k hy => Or.inl hy
            refine e_put (d := d + 6) W15 ⟨by decide, by decide⟩ fun M18 f18 W18 => ?_
            intro _ _
            have g18 := g15.tr (f18.up fun y k hy => R_LW.wl hy)
            have hx18 : b_at (g_i M18 b) q (p_hd y) := b_at_keep hxF fun k k1 k2 => by rw [R_LW.lo n1 g18 (by omega)]; exact hS11.2.1 k (by omega)
            refine e_putBytes (d := d + 5) W18 hx18 h0 (by omega) (Or.inl (by omega)) fun M21 f21 W21 => ?_
            intro _ _
            have g21 := g18.tr (f21.up fun y k hy => R_LW.wl hy)
            refine e_put (d := d + 6) W21 ⟨by decide, by decide⟩ fun M24 f24 W24 => ?_
            intro _ _
            have g24 := g21.tr (f24.up fun y k hy => R_LW.wl hy)
            refine e_putInt (d := d + 5) W24 ⟨by decide, by decide⟩ fun M27 f27 W27 => ?_
            intro _ _
            have g27 := g24.tr (f27.up fun y k hy => R_LW.wl hy)
            refine e_put (d := d + 6) W27 ⟨by decide, by decide⟩ fun M30 f30 W30 => ?_
            intro _ _
            have g30 := g27.tr (f30.up fun y k hy => R_LW.wl hy)
            have ew : [] ++ [g_w8 3] ++ p_hd y ++ [g_w8 0] ++ b_le4 5 ++ [g_w8 0] = b_el 3 (p_hd y) (b_doc []) := by
              have : b_doc [] = b_le4 5 ++ [0] := rfl
              rw [this]
              simp [b_el, g_w8_of]
            rw [ew] at W30
            have hl3 : (b_el 3 (p_hd y) (b_doc [])).length = (p_hd y).length + 7 := by rw [b_el_len, b_doc_len]; rfl
            obtain ⟨w1, w2⟩ := W30.at (by omega)
            refine e_append (d := d + 2) (hS11.lw g30 (by omega)) hE.2.2.1 w1 w2 (by omega) fun M33 f33 hZ33 hb33 => ?_
            intro _ _ _
            have fall : e_fr (fun y k => R_WK b y k ∨ R_LW m b y k ∨ (y = m ∧ (k = 15 ∨ k = 16))) M M33 := ((f11.up fun y k hy => Or.inr (Or.inr hy)).tr (g30.up fun y k hy => Or.inr (Or.inl hy))).tr (f33.up fun y k hy => Or.inl hy)
            have hS33 := hSt.app (k2 := 3) (s := p_hd y) (x := b_doc []) hE.2.2.1 fall hZ33 hb33
            have hfr : e_fr (R_FL m b ch) M M33 := (g11.tr (g30.up fun y k hy => R_LW.fl hy)).tr (f33.up fun y k hy => R_WK.fl hy)
            have hg3 : X_gd D (es ++ [(3, p_hd y, b_doc [])]) := by
              refine hE.2.2.2.1.app ?_
              exact X_gd.one hxnz (b_gv_le (D := 1) (X_gv (D := 0) (Or.inl rfl) (fun f hf => absurd hf (by simp)) (by decide) fun g => absurd g (show ¬ (3 : Int) = 4 by decide)) (by omega))
            have hE33 : X_E D (e.1, e.2.1, b_doc (es ++ [(3, p_hd y, b_doc [])])) (es ++ [(3, p_hd y, b_doc [])]) := ⟨hE.1, hE.2.1, rfl, hg3, hE.2.2.2.2.snoc hrow2⟩
            refine h141 z (3, p_hd y, b_doc []) es [] (e.1, e.2.1, b_doc (es ++ [(3, p_hd y, b_doc [])])) (es ++ [(3, p_hd y, b_doc [])]) M33 _ g1 rfl rfl rfl hS33 hE33 rfl ?_ hfr (fun _ => ?_) (fun g => absurd (Or.inl rfl) g)
            · have q1 := b_el_len e.1 e.2.1 (b_doc (es ++ [(3, p_hd y, b_doc [])]))
              have q2 : (b_doc (es ++ [(3, p_hd y, b_doc [])])).length = e.2.2.length + ((p_hd y).length + 7) := by
                have hsa : (b_ser (es ++ [(3, p_hd y, b_doc [])])).length = (b_ser es).length + ((p_hd y).length + (b_doc []).length + 2 + 0) := b_ser_mid es [] _
                have hd0 : (b_doc []).length = 5 := rfl
                rw [b_doc_len, hsa]
                omega
              have q3 := h_hs_add (b_el e.1 e.2.1 e.2.2).length ((p_hd y).length + 7) c
              have q4 : (b_el e.1 e.2.1 (b_doc (es ++ [(3, p_hd y, b_doc [])]))).length = (b_el e.1 e.2.1 e.2.2).length + ((p_hd y).length + 7) := by omega
              show h_hs (b_el e.1 e.2.1 (b_doc (es ++ [(3, p_hd y, b_doc [])]))).length c + _ ≤ _
              rw [q4, q3]
              have := X_G_cons p (p_hd y) (p_sp z)
              rw [hspz]
              omega
            · rw [hspz, hsr, hmk]
              have c0 : b_ch (b_doc []) = [] := b_ch_doc fun e he => absurd he (by simp)
              have c1 : ((3 : Int) == 4) = false := by decide
              show (X_make op p false [] (s2 :: r2)).1 = (X_make op p ((3 : Int) == 4) (b_ch (b_doc [])) (s2 :: r2)).1 ∧ es ++ [(3, p_hd y, b_doc (X_make op p false [] (s2 :: r2)).2)] = es ++ (3, p_hd y, b_doc (X_make op p ((3 : Int) == 4) (b_ch (b_doc [])) (s2 :: r2)).2) :: []
              rw [c0, c1]
              exact ⟨rfl, rfl⟩
      · obtain ⟨l, t, l1, l2, l3, l4, l5⟩ := hso e0 hf0
        have hpos : h_at 921998 (c ++ [(e.1, e.2.1, l, t)]) = h_at 921998 c + 2 + e.2.1.length + 4 + (b_ser l).length := by
          rw [h_at_snoc]
          show h_at 921998 c + 6 + (e.2.1.length : Int) + ((b_ser l).length : Nat) = _
          omega
        rw [l5, ← hpos]
        have hge := h_at_ge (c ++ [(e.1, e.2.1, l, t)]) 921998
        refine ⟨fun gl => ?_, fun gl => ⟨fun g => absurd g (by omega), fun _ => ?_⟩⟩
        · refine hqs c e es D (p_hd y) e0 l t M11 g11 hS11 hE (Nat.le_refl _) (by have := p_sp_pos y; omega) hf0 l1 l2 (by omega) ?_
          rcases p_hd_tl y with ⟨g1, g2⟩ | ⟨z, g1, g2⟩
          · rw [p_sp_none g1]
            exact R_way.rf
          · have := congrArg List.length g2
            rw [List.length_append, List.length_cons] at this
            omega
        · rcases p_hd_tl y with ⟨g1, g2⟩ | ⟨z, g1, g2⟩
          · rw [g2] at gl
            exact absurd rfl gl
          · have hspz := p_sp_some g1
            obtain ⟨s2, r2, hsr⟩ : ∃ s r, p_sp z = s :: r := ⟨_, _, p_sp_eq z⟩
            refine h141 z e0 l t e es M11 _ g1 rfl rfl rfl hS11 hE l1 ?_ g11 (fun hk => ?_) (fun hk => ?_)
            · have := X_G_cons p (p_hd y) (p_sp z)
              rw [hspz]
              omega
            · rw [hspz, hsr, X_mk_s2 hf0 hk]
              exact ⟨rfl, l2 _⟩
            · rw [hspz, hsr, X_mk_s3 hf0 hk]
    refine s_X12_make_6 hv1 ⟨by omega, by omega⟩ ⟨by omega, by omega⟩ fun _ => ⟨hR.1, e_stepEnd (d := d + 5) hR hyM h0 (by omega) ?_⟩
    intro _ _ _
    by_cases hk : e.1 = 4
    · rw [if_pos hk] at h14
      have hrn : X_rn true es := by
        have := hE.2.2.2.2
        rwa [show (e.1 == 4) = true by rw [hk]; rfl] at this
      obtain ⟨hr1', hr2'⟩ := L_fn_row (s := p_hd y) hrn (by omega)
      have hbad : L_fn (p_hd y) es = none → p_hd y ≠ b_dg es.length → ∀ M1, e_fr (R_FL m b ch) M M1 → Q (-2) M1 := fun h1 h2 M1 f1 => hqn M1 f1 (by
        rw [hr1, X_mk_bad h1 (by simp [hk]) h2])
      refine ⟨fun g => absurd g (by omega), fun _ => e_stepNo (d := d + 5) hR hxM h0 (by omega) (fun i hi hxi => ?_) (fun hnod rr hrr => ?_)⟩
      · intro _ _ _
        have hc3 := (b_cons.mp (b_app.mp hSt.2.2.2.2.2.2.2.1).2).1
        rw [h_vc_len] at hc3
        refine s_X12_make_32 hv1 ⟨by omega, by omega⟩ ⟨by omega, by omega⟩ ⟨by omega, by omega⟩ ⟨by omega, by omega⟩ fun _ => ⟨hR.1, fun g => absurd g (by omega), fun _ => ⟨fun g => absurd g (by omega), fun _ => ⟨ch, hO.2.1, by rw [h13]; exact ⟨by omega, by omega⟩, _, hO.2.2, by rw [h13]; exact ⟨by omega, by omega⟩, ?_⟩⟩⟩
        rw [show g_i M m 13 - 1 = 0 + (c.length : Int) by omega, hc3]
        refine e_countE (d := d + 2) hR (hSt.tl hE (by omega)) ?_
        intro _ _ _
        refine ⟨fun g => ?_, fun g => h69 _ ⟨by omega, by omega⟩ fun _ h1 => ?_⟩
        · refine hbad (hr2' fun n hn hs => ?_) (fun hs => ?_) M (e_fr.rf _ _)
          · have := b_dg_inj (by omega) (by omega) (hxi.symm.trans hs)
            omega
          · have := b_dg_inj (by omega) (by omega) (hxi.symm.trans hs)
            omega
        · rcases Nat.lt_or_ge i es.length with g3 | g3
          · exact absurd h1 (hr1' i g3 hxi)
          · rw [hxi, show i = es.length by omega]
      · intro _ _ hrrR
        have hnof : L_fn (p_hd y) es = none := hr2' fun n hn => hnod n (by omega)
        have hbad' := hbad hnof (hnod _ (by omega))
        have hc3 := (b_cons.mp (b_app.mp hSt.2.2.2.2.2.2.2.1).2).1
        rw [h_vc_len] at hc3
        refine s_X12_make_32 hv1 ⟨by omega, by omega⟩ ⟨by omega, by omega⟩ ⟨by omega, by omega⟩ hrrR fun _ => ⟨hR.1, fun g => absurd g (by omega), fun _ => ⟨fun g => hbad' M (e_fr.rf _ _), fun g => ⟨ch, hO.2.1, by rw [h13]; exact ⟨by omega, by omega⟩, _, hO.2.2, by rw [h13]; exact ⟨by omega, by omega⟩, ?_⟩⟩⟩
        rw [show g_i M m 13 - 1 = 0 + (c.length : Int) by omega, hc3]
        refine e_countE (d := d + 2) hR (hSt.tl hE (by omega)) ?_
        intro _ _ _
        exact ⟨fun _ => hbad' M (e_fr.rf _ _), fun g => absurd (by omega) g⟩
    · rw [if_neg hk] at h14
      refine ⟨fun _ => s_X12_make_32 hv1 ⟨by omega, by omega⟩ ⟨by omega, by omega⟩ ⟨by omega, by omega⟩ ⟨by decide, by decide⟩ fun _ => ⟨hR.1, fun _ => h69 0 ⟨by decide, by decide⟩ fun g => absurd g hk, fun g => absurd h14 g⟩, fun g => absurd h14 g⟩
theorem e_make {op to q : Int} {y : List Int} {D : Nat} (hO : R_O m b ch M) (hF : ∀ k, k < 922000 → g_i M b k = F k) (hd : b_at (g_i M b) 922000 (b_doc es)) (hE : X_E D (3, [], b_doc es) es) (hst : (p_sp y).length ≤ 8) (hD : 30 ≤ D) (hnz : b_nz y) (hmx : (b_doc es).length + 2 + X_G p (p_sp y) ≤ 14900) (hy : b_at F q y) (h0 : 0 ≤ q) (hto : q + y.length = to) (hto9 : to ≤ 900000) (hqn : ∀ M1, e_fr (R_FL m b ch) M M1 → (X_make op p false es (p_sp y)).1 = 6 → Q (-2) M1) (hqs : R_some F m b ch op p [] (3, [], b_doc es) D ((b_doc es).length + 2 + X_G p (p_sp y)) (X_make op p false es (p_sp y)) M Q) (hqf : R_free F m b ch op p [] (3, [], b_doc es) D ((b_doc es).length + 2 + X_G p (p_sp y)) (X_make op p false es (p_sp y)) M Q) : g_Call (d + 8) 312 [.ref m, g_n q, g_n to] M (g_qI Q) := by
  have hR := hO.1
  have hhl : h_hs (b_el 3 [] (b_doc es)).length [] = (b_doc es).length + 2 := by
    show (b_el 3 [] (b_doc es)).length = _
    rw [b_el_len, List.length_nil]
    omega
  refine m_X12_make ⟨by omega, by omega⟩ ⟨by omega, by omega⟩ fun _ => ⟨hR.1, e_outermost (d := d + 6) hO hF hd fun M1 f1 hS1 => ?_⟩
  intro _ _
  have f1' : e_fr (R_FL m b ch) M M1 := f1.up fun y k hy => R_IN.fl hy
  refine e_makeL (op := op) (p := p) ⟨by omega, by omega⟩ (p_sp y).length y q [] (3, [], b_doc es) es D M1 (Nat.le_refl _) hS1 hE (by show 0 + _ ≤ _; omega) (by omega) (by rw [hhl]; exact hmx) (p_sp_nz hnz) hy h0 hto hto9 (fun M2 f2 h2 => hqn M2 (f1'.tr f2) h2) ?_ ?_
  · rw [hhl]
    intro c2 e2 es2 D2 x e0 l t M2 f2
    exact hqs c2 e2 es2 D2 x e0 l t M2 (f1'.tr f2)
  · rw [hhl]
    intro c2 e2 es2 D2 x q2 M2 f2
    exact hqf c2 e2 es2 D2 x q2 M2 (f1'.tr f2)
end RMAKE
