/-! CHANGES: the reference reaches the end of a path -/
/-- what comes of the inner element e2 tells what comes of e, which it stands in -/
def R_way (c : List h_F) (e : b_E) (c2 : List h_F) (e2 : b_E) (X X2 : Int × List b_E) : Prop := X.1 = X2.1 ∧ (X2.1 = 0 → ∀ B : Int → Int, h_Z B (b_el e2.1 e2.2.1 (b_doc X2.2)).length 921998 c2 ∧ b_at B (h_at 921998 c2) (b_el e2.1 e2.2.1 (b_doc X2.2)) → h_Z B (b_el e.1 e.2.1 (b_doc X.2)).length 921998 c ∧ b_at B (h_at 921998 c) (b_el e.1 e.2.1 (b_doc X.2)))
theorem R_way.rf {c : List h_F} {e : b_E} {X : Int × List b_E} : R_way c e c e X X := ⟨rfl, fun _ _ h => h⟩
theorem R_way.inn {c c2 : List h_F} {e e0 e2 : b_E} {l t : List b_E} {X X1 X2 : Int × List b_E} (h : R_way (c ++ [(e.1, e.2.1, l, t)]) e0 c2 e2 X1 X2) (hX : X.1 = X1.1) (hX2 : X.2 = l ++ (e0.1, e0.2.1, b_doc X1.2) :: t) : R_way c e c2 e2 X X2 := by
  refine ⟨hX.trans h.1, fun z B hB => ?_⟩
  have h9 := h.2 z B hB
  have h8 := (h_in (B := B) (c := c) (f := (e.1, e.2.1, l, t)) (p := 921998) (mid := [(e0.1, e0.2.1, b_doc X1.2)])).mpr (by rw [b_ser_1]; exact h9)
  rw [hX2, show l ++ (e0.1, e0.2.1, b_doc X1.2) :: t = l ++ [(e0.1, e0.2.1, b_doc X1.2)] ++ t by simp]
  exact h8
/-- what was done to an item -/
theorem R_way.fin {c c2 : List h_F} {e e2 : b_E} {l t mid : List b_E} {X X2 : Int × List b_E} {B : Int → Int} (h : R_way c e c2 e2 X X2) (h0 : X2.1 = 0) (h2 : X2.2 = l ++ mid ++ t) (hZ : h_Z B (b_ser mid).length 921998 (c2 ++ [(e2.1, e2.2.1, l, t)])) (hb : b_at B (h_at 921998 (c2 ++ [(e2.1, e2.2.1, l, t)])) (b_ser mid)) : h_Z B (b_el e.1 e.2.1 (b_doc X.2)).length 921998 c ∧ b_at B (h_at 921998 c) (b_el e.1 e.2.1 (b_doc X.2)) := by
  refine h.2 h0 B ?_
  rw [h2]
  exact (h_in (B := B) (c := c2) (f := (e2.1, e2.2.1, l, t)) (p := 921998) (mid := mid)).mpr ⟨hZ, hb⟩
def R_IN (m ch : Nat) (y : Nat) (k : Int) : Prop := (y = m ∧ (k = 13 ∨ k = 14)) ∨ y = ch
theorem R_IN.fl {m b ch y : Nat} {k : Int} (h : R_IN m ch y k) : R_FL m b ch y k := by
  rcases h with ⟨h1, h2⟩ | h
  · exact Or.inl ⟨h1, Or.inr (by omega)⟩
  · exact Or.inr (Or.inl h)
section RREACH
variable {d m b ch : Nat} {F : Int → Int} {M M1 : g_M} {c : List h_F} {e e1 p : b_E} {es l t : List b_E} {Q : Int → g_M → Prop}
theorem L_opt_fn {x : List Int} {es : List b_E} (q : Int) : (L_fn x es = none → L_find x (L_at q es) = none) ∧ (∀ e0, L_fn x es = some e0 → ∃ l t, es = l ++ e0 :: t ∧ (∀ e2, X_rep x e2 es = l ++ e2 :: t) ∧ X_del x es = l ++ t ∧ e0.2.1 = x ∧ L_opt (L_find x (L_at q es)) = q + (b_ser l).length) := by
  refine ⟨fun h => L_find_none es _ (L_fn_none h), fun e0 h => ?_⟩
  obtain ⟨l, t, l1, l2, l3, l4, l5⟩ := L_fn_split h
  refine ⟨l, t, l1, l3, l4, l2, ?_⟩
  rw [l1, L_find_app l e0 t _ l5 l2]
  rfl
theorem e_reachL {op v1 to : Int} (hv1 : g_InR v1) : ∀ (n : Nat) (y : List Int) (q : Int) (c : List h_F) (e : b_E) (es : List b_E) (D : Nat) (M : g_M), (p_sp y).length ≤ n → R_St F m b ch c e M → X_E D e es → c.length + (p_sp y).length ≤ 9 → h_hs (b_el e.1 e.2.1 e.2.2).length c ≤ 15000 → b_at F q y → 0 ≤ q → q + y.length = to → to ≤ 900000 → (∀ M1, e_fr (R_IN m ch) M M1 → X_take op p (e.1 == 4) es (p_sp y) = (0, es) → Q (-1) M1) → (∀ (c2 : List h_F) (e2 : b_E) (es2 : List b_E) (D2 : Nat) (x : List Int) (e0 : b_E) (l t : List b_E) (M1 : g_M), e_fr (R_IN m ch) M M1 → R_St F m b ch c2 e2 M1 → X_E D2 e2 es2 → D2 ≤ D → c2.length ≤ 8 → L_fn x es2 = some e0 → es2 = l ++ e0 :: t → (∀ e3, X_rep x e3 es2 = l ++ e3 :: t) → X_del x es2 = l ++ t → h_hs (b_el e2.1 e2.2.1 e2.2.2).length c2 = h_hs (b_el e.1 e.2.1 e.2.2).length c → R_way c e c2 e2 (X_take op p (e.1 == 4) es (p_sp y)) (X_take op p (e2.1 == 4) es2 [x]) → Q (h_at 921998 (c2 ++ [(e2.1, e2.2.1, l, t)])) M1) → g_Run (d + 7) 313 6 [(0, .ref m), (1, g_n v1), (2, g_n to), (3, g_n q)] [] M (g_qI Q) := by
  intro n
  induction n with
  | zero =>
    intro y q c e es D M hn
    have := p_sp_pos y
    omega
  | succ n ih =>
    intro y q c e es D M hn hSt hE hcl hmx hy h0 hto hto9 hqn hqs
    obtain ⟨hO, hF, -⟩ := id hSt
    have hR := hO.1
    have hyM : b_at (g_i M b) q y := b_at_keep hy fun k k1 k2 => hF k (by omega)
    have hsp := p_sp_eq y
    have hhd : p_hd y ++ (match p_tl y with | none => [] | some z => 46 :: z) = y := by
      rcases p_hd_tl y with ⟨g1, g2⟩ | ⟨z, g1, g2⟩
      · rw [g1, List.append_nil]
        exact g2
      · rw [g1]
        exact g2.symm
    have hhl : (p_hd y).length ≤ y.length := by
      have := congrArg List.length hhd
      rw [List.length_append] at this
      omega
    have hxM : b_at (g_i M b) q (p_hd y) := by
      rw [← hhd] at hyM
      exact (b_app.mp hyM).1
    subst hto
    refine s_X12_reach_6 hv1 ⟨by omega, by omega⟩ ⟨by omega, by omega⟩ fun _ => ⟨hR.1, e_stepEnd (d := d + 5) hR hyM h0 (by omega) ?_⟩
    intro _ _ _
    refine e_meet (d := d + 1) hSt hE hmx hxM h0 (by omega) ?_
    intro _ _ hzR
    obtain ⟨hno, hso⟩ := L_opt_fn (x := p_hd y) (es := es) (h_at 921998 c + 2 + e.2.1.length + 4)
    rcases hf0 : L_fn (p_hd y) es with _ | e0
    · rw [hno hf0] at hzR ⊢
      refine ⟨fun _ => hqn M (e_fr.rf _ _) ?_, fun g => absurd rfl g⟩
      rw [hsp]
      exact X_tk_n hf0
    · obtain ⟨l, t, l1, l2, l3, l4, l5⟩ := hso e0 hf0
      have hpos : h_at 921998 (c ++ [(e.1, e.2.1, l, t)]) = h_at 921998 c + 2 + e.2.1.length + 4 + (b_ser l).length := by
        rw [h_at_snoc]
        show h_at 921998 c + 6 + (e.2.1.length : Int) + ((b_ser l).length : Nat) = _
        omega
      rw [l5, ← hpos] at hzR ⊢
      have hge := h_at_ge (c ++ [(e.1, e.2.1, l, t)]) 921998
      obtain ⟨hst1, hZ1, hat1, hhs1, -, hge1⟩ := hSt.item hE l1 (by omega)
      obtain ⟨v1', v2', v3', hkd⟩ := hst1.val
      have hst5 := hst1.2.2.2.2
      have hel1 := b_el_len e0.1 e0.2.1 e0.2.2
      have hgd0 := hE.2.2.2.1 e0 (by rw [l1]; simp)
      refine ⟨fun g => absurd g (by omega), fun _ => ⟨fun gl => ?_, fun gl => ?_⟩⟩
      · refine hqs c e es D (p_hd y) e0 l t M (e_fr.rf _ _) hSt hE (Nat.le_refl _) ?_ hf0 l1 l2 l3 rfl ?_
        · have := p_sp_pos y
          omega
        · rcases p_hd_tl y with ⟨g1, g2⟩ | ⟨z, g1, g2⟩
          · rw [p_sp_none g1]
            exact R_way.rf
          · have := congrArg List.length g2
            rw [List.length_append, List.length_cons] at this
            omega
      · rcases p_hd_tl y with ⟨g1, g2⟩ | ⟨z, g1, g2⟩
        · rw [g2] at gl
          exact absurd rfl gl
        · have hspz := p_sp_some g1
          have hzl := congrArg List.length g2
          rw [List.length_append, List.length_cons] at hzl
          have hz2 : ∃ s r, p_sp z = s :: r := ⟨_, _, p_sp_eq z⟩
          obtain ⟨s, r, hsr⟩ := hz2
          have hspl := congrArg List.length hspz
          rw [List.length_cons] at hspl
          have hzp := p_sp_pos z
          have hzF : b_at F (q + (p_hd y).length + 1) z := by
            rw [g2] at hy
            exact (b_cons.mp (b_app.mp hy).2).2
          have hgo : e0.1 = 3 ∨ e0.1 = 4 → ∀ M17, e_fr (fun y k => (y = m ∧ (k = 13 ∨ k = 14)) ∨ y = ch) M M17 → R_St F m b ch (c ++ [(e.1, e.2.1, l, t)]) e0 M17 → g_Run (d + 7) 313 6 [(0, .ref m), (1, g_n v1), (2, g_n (q + y.length)), (3, g_n (q + (p_hd y).length + 1))] [] M17 (g_qI Q) := by
            intro hk M17 f17 hS17
            have f17' : e_fr (R_IN m ch) M M17 := f17
            obtain ⟨D1, hD1, hE1⟩ := X_E.mk hgd0.1 hgd0.2 hk
            have htk := X_tk_s2 (op := op) (p := p) (row := (e.1 == 4)) (y := s) (r := r) hf0 hk
            refine ih z _ _ e0 (b_ch e0.2.2) D1 M17 (by omega) hS17 hE1 (by rw [List.length_append, List.length_singleton]; omega) (by omega) hzF (by omega) (by omega) (by omega) ?_ ?_
            · intro M1 f1 h1
              refine hqn M1 (f17'.tr f1) ?_
              rw [hsr] at h1
              rw [hspz, hsr, htk, h1, l2, ← hE1.2.2.1]
              rw [l1]
            · intro c2 e2 es2 D2 x e3 l2' t2' M1 f1 hS1 hE2 hD2 hc2 hf3 a1 a2 a3 a4 hw
              refine hqs c2 e2 es2 D2 x e3 l2' t2' M1 (f17'.tr f1) hS1 hE2 (by omega) hc2 hf3 a1 a2 a3 (by omega) ?_
              rw [hspz, hsr, htk]
              rw [hsr] at hw
              exact hw.inn rfl (l2 _)
          refine ⟨b, hR.2.1, _, hR.2.2, ⟨by omega, by omega⟩, ?_⟩
          rw [hkd]
          refine ⟨fun g => e_into (d := d + 4) hSt hE l1 (Or.inl g) (by omega) hmx fun M17 f17 hS17 => ?_, fun g3 => ⟨b, hR.2.1, _, hR.2.2, ⟨by omega, by omega⟩, ?_⟩⟩
          · intro _ _
            exact ⟨⟨by omega, by omega⟩, hgo (Or.inl g) M17 f17 hS17⟩
          · rw [hkd]
            refine ⟨fun g => e_into (d := d + 4) hSt hE l1 (Or.inr g) (by omega) hmx fun M17 f17 hS17 => ?_, fun g4 => hqn M (e_fr.rf _ _) ?_⟩
            · intro _ _
              exact ⟨⟨by omega, by omega⟩, hgo (Or.inr g) M17 f17 hS17⟩
            · rw [hspz, hsr]
              exact X_tk_s3 hf0 fun z => z.elim g3 g4
theorem e_reach {op to q : Int} {y : List Int} (hO : R_O m b ch M) (hF : ∀ k, k < 922000 → g_i M b k = F k) (hd : b_at (g_i M b) 922000 (b_doc es)) {D : Nat} (hE : X_E D (3, [], b_doc es) es) (hst : (p_sp y).length ≤ 8) (hmx : (b_doc es).length ≤ 14900) (hy : b_at F q y) (h0 : 0 ≤ q) (hto : q + y.length = to) (hto9 : to ≤ 900000) (hqn : ∀ M1, e_fr (R_IN m ch) M M1 → X_take op p false es (p_sp y) = (0, es) → Q (-1) M1) (hqs : ∀ (c2 : List h_F) (e2 : b_E) (es2 : List b_E) (D2 : Nat) (x : List Int) (e0 : b_E) (l t : List b_E) (M1 : g_M), e_fr (R_IN m ch) M M1 → R_St F m b ch c2 e2 M1 → X_E D2 e2 es2 → D2 ≤ D → c2.length ≤ 8 → L_fn x es2 = some e0 → es2 = l ++ e0 :: t → (∀ e3, X_rep x e3 es2 = l ++ e3 :: t) → X_del x es2 = l ++ t → h_hs (b_el e2.1 e2.2.1 e2.2.2).length c2 = (b_doc es).length + 2 → R_way [] (3, [], b_doc es) c2 e2 (X_take op p false es (p_sp y)) (X_take op p (e2.1 == 4) es2 [x]) → Q (h_at 921998 (c2 ++ [(e2.1, e2.2.1, l, t)])) M1) : g_Call (d + 8) 313 [.ref m, g_n q, g_n to] M (g_qI Q) := by
  have hR := hO.1
  have hhl : h_hs (b_el 3 [] (b_doc es)).length [] = (b_doc es).length + 2 := by
    show (b_el 3 [] (b_doc es)).length = _
    rw [b_el_len, List.length_nil]
    omega
  refine m_X12_reach ⟨by omega, by omega⟩ ⟨by omega, by omega⟩ fun _ => ⟨hR.1, e_outermost (d := d + 6) hO hF hd fun M1 f1 hS1 => ?_⟩
  intro _ _
  have f1' : e_fr (R_IN m ch) M M1 := f1
  refine e_reachL (op := op) (p := p) ⟨by omega, by omega⟩ (p_sp y).length y q [] (3, [], b_doc es) es D M1 (Nat.le_refl _) hS1 hE (by show 0 + _ ≤ _; omega) (by rw [hhl]; omega) hy h0 hto hto9 (fun M2 f2 h2 => hqn M2 (f1'.tr f2) h2) fun c2 e2 es2 D2 x e0 l t M2 f2 a1 a2 a3 a4 a5 a6 a7 a8 a9 hw => ?_
  exact hqs c2 e2 es2 D2 x e0 l t M2 (f1'.tr f2) a1 a2 a3 a4 a5 a6 a7 a8 (a9.trans hhl) hw
end RREACH
