/-! INDEX: it is prepared, class -/
/-- an index's objects, whatever its paths -/
def I_G (x r b p1 f1 t1 p2 f2 t2 t k1 k2 : Nat) (n c e : Int) (L : List Int) (Y : Nat → Prop) (M : g_M) : Prop := I_ob x r b p1 p2 t k1 k2 M ∧ (g_A M b 0 n ∧ n ≤ 1000000000 ∧ b_at (g_i M b) 0 [10, 0]) ∧ k_P M r b c e L ∧ L.length ≤ 1000 ∧ p_P M p1 f1 t1 ∧ p_P M p2 f2 t2 ∧ I_dj Y t M
def I_Yf (Y : Nat → Prop) (b f1 t1 f2 t2 k1 k2 : Nat) : Prop := Y b ∧ Y k1 ∧ Y k2 ∧ Y f1 ∧ Y t1 ∧ Y f2 ∧ Y t2
def I_pd (p1 f1 t1 p2 f2 t2 : Nat) : Prop := p1 ≠ p2 ∧ f1 ≠ f2 ∧ f1 ≠ t2 ∧ t1 ≠ f2 ∧ t1 ≠ t2
/-- what the making of an index may change -/
def I_PF (x p1 f1 t1 p2 f2 t2 t r : Nat) (M M1 : g_M) : Prop := k_F (fun y => y = x ∨ p_S p1 f1 t1 y ∨ p_S p2 f2 t2 y ∨ B_own t M y) r M M1 ∧ (∀ y, B_own t M1 y → B_own t M y ∨ 2 * M.1.length ≤ y) ∧ (∀ k : Int, k ≠ 9 → k ≠ 10 → k ≠ 11 → k ≠ 12 → g_i M1 x k = g_i M x k) ∧ g_r M1 x = g_r M x
noncomputable def I_wy : List b_E → Int
  | [] => 1
  | e :: _ => if S_tr e = true then -1 else 1
theorem I_wy_w (l : List b_E) : I_w (I_wy l) := by
  rcases l with _ | ⟨e, l⟩
  · exact Or.inl rfl
  · show I_w (if S_tr e = true then -1 else 1)
    by_cases h : S_tr e = true
    · rw [if_pos h]
      exact Or.inr rfl
    · rw [if_neg h]
      exact Or.inl rfl
def I_p2 : List b_E → Option (List (List Int))
  | [] => none
  | e :: _ => some (p_sp (s_tx e.2.2))
noncomputable def I_mkV (ea : b_E) (ra : List b_E) (ed : b_E) (rd : List b_E) : I_V := (I_wy (ed :: rd), I_wy rd, p_sp (s_tx ea.2.2), I_p2 ra)
def I_c2 : List b_E → Nat
  | [] => 0
  | e :: _ => (s_tx e.2.2).length
/-- a text that is a path -/
def I_ptx (e : b_E) : Prop := e.1 = 2 ∧ (s_tx e.2.2).length ≤ 2000 ∧ p_ok (s_tx e.2.2)
theorem p_P.kS {S : Nat → Prop} {M M1 : g_M} {r b o f t : Nat} {c e : Int} {L : List Int} (h : p_P M o f t) (hP : k_P M r b c e L) (k : k_F S r M M1) (h1 : ¬ S o) : p_P M1 o f t := by
  obtain ⟨o1, o2, o3, o4, o5, o6⟩ := h
  obtain ⟨i1, r1⟩ := k.O hP o1 (by decide) h1
  exact ⟨o1.up k.1, by rw [r1]; exact o2, by rw [r1]; exact o3, o4.up k.1, o5.up k.1, o6⟩
theorem C_t0.kF {S : Nat → Prop} {t j i r b : Nat} {c e : Int} {L : List Int} {M M1 : g_M} (h : C_t0 t j i M) (hP : k_P M r b c e L) (f : k_F S r M M1) (hS : ∀ y, S y → ¬ B_own t M y) : C_t0 t j i M1 ∧ ∀ y, B_own t M1 y ↔ B_own t M y := by
  obtain ⟨p1, p2⟩ := h.pile hP
  have hsm : ∀ y, B_own t M y → g_i M1 y = g_i M y ∧ g_r M1 y = g_r M y := fun y hy => f.2.2.2.2.2 y (hy.lt h) (fun z => p1 (z ▸ hy)) (fun z => hS y z hy) fun z => p2 y z hy
  have hto := hsm t (Or.inl rfl)
  refine ⟨?_, B_own.of hto.2⟩
  obtain ⟨S0, ⟨b1, b2, b3, b4⟩, h3⟩ := h
  refine ⟨S0, ⟨b1.up f.1, fun k => by rw [hto.1]; exact b2 k, fun k hk => ?_, fun k hk k2 hk2 => by rw [hto.2]; exact b4 k hk k2 hk2⟩, h3⟩
  obtain ⟨a, a1, a2, a3⟩ := b3 k hk
  obtain ⟨e1, -⟩ := hsm a (Or.inr ⟨k, hk, a1⟩)
  exact ⟨a, by rw [hto.2]; exact a1, a2.up f.1, by rw [e1]; exact a3⟩
/-- an empty tree may go the other way -/
theorem C_tr.way {t j i : Nat} {w1 w2 w3 : Int} {M : g_M} (h : C_tr t w1 w2 N_nil j i M) (hw : I_w w3) : C_tr t w1 w3 N_nil j i (g_wi M t 13 w3) ∧ B_F t 0 0 M (g_wi M t 13 w3) := by
  obtain ⟨S, FS, FN, sg, hh, rt, l, ⟨hB, ⟨a1, a2, ⟨a3, a4, a5, a6⟩, a7, a8⟩, hD, ⟨h14, h18, h15, h16, h17⟩, hgd⟩, hTe⟩ := h
  have hh0 : hh = 0 := (congrArg Sigma.fst hTe).symm
  subst hh0
  have hl : l = [] := by
    have h1 : (⟨0, []⟩ : N_T I_E) = ⟨0, l.map (V_er 0)⟩ := hTe
    have h2 := eq_of_heq (Sigma.mk.inj h1).2
    exact List.map_eq_nil_iff.mp h2.symm
  subst hl
  obtain ⟨t1, f1⟩ := hB.fld 13 w3
  have hv : ∀ k : Int, k ≠ 13 → (B_fld S 13 w3).2.2 k = S.2.2 k := fun k hk => by rw [B_fld_v, if_neg hk]
  obtain ⟨d1, d2, d3⟩ := C_D_0.mp hD
  refine ⟨⟨B_fld S 13 w3, FS, FN, sg, 0, rt, [], ⟨t1, ⟨⟨a1.1, by rw [hv 3 (by decide)]; exact a1.2.1, a1.2.2⟩, ⟨a2.1, by rw [hv 9 (by decide)]; exact a2.2.1, a2.2.2⟩, ⟨by rw [hv 12 (by decide)]; exact a3, by rw [B_fld_v, if_pos rfl], a5, hw⟩, a7, a8⟩, C_D_0.mpr ⟨d1, d2, fun x hx => absurd hx (by simp)⟩, ⟨by rw [hv 14 (by decide)]; exact h14, by rw [hv 18 (by decide)]; exact h18, by rw [hv 15 (by decide)]; exact h15, by rw [hv 16 (by decide)]; exact h16, by rw [hv 17 (by decide)]; exact h17⟩, N_nil_good⟩, rfl⟩, f1⟩
section PREPARE
variable {d x r b p1 f1 t1 p2 f2 t2 t k1 k2 j i : Nat} {c e n : Int} {L : List Int} {M M1 : g_M} {Y : Nat → Prop}
theorem I_G.pt {S : Nat → Prop} {c1 e1 : Int} (h : I_G x r b p1 f1 t1 p2 f2 t2 t k1 k2 n c e L Y M) (f : k_F S r M M1) (hS : ∀ y, S y → p_S p1 f1 t1 y ∨ p_S p2 f2 t2 y) (hP : k_P M1 r b c1 e1 L) (hp1 : p_P M1 p1 f1 t1) (hp2 : p_P M1 p2 f2 t2) : I_G x r b p1 f1 t1 p2 f2 t2 t k1 k2 n c1 e1 L Y M1 ∧ g_i M1 b = g_i M b ∧ (g_i M1 x = g_i M x ∧ g_r M1 x = g_r M x) ∧ ∀ y, B_own t M1 y ↔ B_own t M y := by
  obtain ⟨s1, ⟨s3, s4, s5⟩, s8, s9, q1, q2, hdj⟩ := h
  have hno : ∀ y, (∃ ci, g_O M y ci ∧ ci ≠ 5) ∨ (∃ ty m, g_A M y ty m ∧ ty ≠ 1) → ¬ S y := by
    intro y hy z
    rcases hS y z with z | z
    · rcases z with z | z | z <;> subst z <;> rcases hy with ⟨ci, g1, g2⟩ | ⟨ty, m, g1, g2⟩
      · exact g_neOO g1 q1.1 g2 rfl
      · exact g_neOA q1.1 g1 rfl
      · exact g_neOA g1 q1.2.2.2.1 rfl
      · exact g2 (g1.fn q1.2.2.2.1).1
      · exact g_neOA g1 q1.2.2.2.2.1 rfl
      · exact g2 (g1.fn q1.2.2.2.2.1).1
    · rcases z with z | z | z <;> subst z <;> rcases hy with ⟨ci, g1, g2⟩ | ⟨ty, m, g1, g2⟩
      · exact g_neOO g1 q2.1 g2 rfl
      · exact g_neOA q2.1 g1 rfl
      · exact g_neOA g1 q2.2.2.2.1 rfl
      · exact g2 (g1.fn q2.2.2.2.1).1
      · exact g_neOA g1 q2.2.2.2.2.1 rfl
      · exact g2 (g1.fn q2.2.2.2.2.1).1
  have hb := (f.A s8 s3 (fun g => absurd g (by decide)) (hno b (Or.inr ⟨0, n, s3, by decide⟩))).1
  have hx := f.O s8 s1.1 (by decide) (hno x (Or.inl ⟨3, s1.1, by decide⟩))
  have ht := f.O s8 s1.2.2.2.2.2.2.2.2.2.2.2 (by decide) (hno t (Or.inl ⟨10, s1.2.2.2.2.2.2.2.2.2.2.2, by decide⟩))
  have hown := B_own.of ht.2
  refine ⟨⟨s1.fr f hx.2, ⟨s3.up f.1, s4, by rw [hb]; exact s5⟩, hP, s9, hp1, hp2, fun y hy => ⟨?_, fun z => (hdj y hy).2 ((hown y).mp z)⟩⟩, hb, hx, hown⟩
  have := (hdj y hy).1
  have := f.2.1
  omega
theorem I_G.go {x0 w : Int} (h : I_G x r b p1 f1 t1 p2 f2 t2 t k1 k2 n c e L Y M) (h0 : C_t0 t j i M) (hb : Y b) (f : B_F t x0 w M M1) : I_G x r b p1 f1 t1 p2 f2 t2 t k1 k2 n (c + x0) (e + w) L Y M1 ∧ k_F (B_own t M) r M M1 ∧ g_i M1 b = g_i M b ∧ (g_i M1 x = g_i M x ∧ g_r M1 x = g_r M x) := by
  obtain ⟨s1, ⟨s3, s4, s5⟩, s8, s9, q1, q2, hdj⟩ := h
  obtain ⟨hP, hk⟩ := s8.BF h0 f
  have hY : ∀ y, Y y → g_i M1 y = g_i M y ∧ g_r M1 y = g_r M y := fun y hy => f.2.2.1 y (hdj y hy).1 (hdj y hy).2
  have hO : ∀ y ci, g_O M y ci → ci ≠ 10 → g_i M1 y = g_i M y ∧ g_r M1 y = g_r M y := fun y ci hy hc => f.2.2.1 y hy.lt (h0.O hy hc)
  have hx := hO x 3 s1.1 (by decide)
  have hpp : ∀ {o ff tt : Nat}, p_P M o ff tt → p_P M1 o ff tt := fun {o ff tt} g => by
    obtain ⟨o1, o2, o3, o4, o5, o6⟩ := g
    have r1 := (hO o 5 o1 (by decide)).2
    exact ⟨o1.up f.1, by rw [r1]; exact o2, by rw [r1]; exact o3, o4.up f.1, o5.up f.1, o6⟩
  refine ⟨⟨s1.fr hk hx.2, ⟨s3.up f.1, s4, by rw [(hY b hb).1]; exact s5⟩, hP, s9, hpp q1, hpp q2, fun y hy => ⟨?_, fun z => ?_⟩⟩, hk, (hY b hb).1, hx⟩
  · have := (hdj y hy).1
    have := f.2.1
    omega
  · rcases f.2.2.2.1 y z with g | g
    · exact (hdj y hy).2 g
    · have := (hdj y hy).1
      omega
theorem I_G.w {k v : Int} (h : I_G x r b p1 f1 t1 p2 f2 t2 t k1 k2 n c e L Y M) (hM : M1 = g_wi M x k v) : I_G x r b p1 f1 t1 p2 f2 t2 t k1 k2 n c e L Y M1 ∧ k_F (fun y => y = x) r M M1 ∧ (∀ y, y ≠ x → g_i M1 y = g_i M y) ∧ (∀ y, g_r M1 y = g_r M y) ∧ (∀ y, B_own t M1 y ↔ B_own t M y) := by
  subst hM
  obtain ⟨s1, ⟨s3, s4, s5⟩, s8, s9, q1, q2, hdj⟩ := h
  have hxr : r ≠ x := g_neOO s8.1 s1.1 (by decide)
  have hff : k_F (fun y => y = x) r M (g_wi M x k v) := k_F.of (g_fr.wi k v rfl) hxr
  have hne : ∀ y, y ≠ x → g_i (g_wi M x k v) y = g_i M y := fun y hy => funext fun q => by rw [g_i_wi, if_neg (fun z => hy z.1)]
  have hbx : b ≠ x := fun g => g_neOA s1.1 s3 g.symm
  refine ⟨⟨s1.fr hff rfl, ⟨s3.up hff.1, s4, by rw [hne b hbx]; exact s5⟩, ?_, s9, ⟨q1.1.up hff.1, q1.2.1, q1.2.2.1, q1.2.2.2.1.up hff.1, q1.2.2.2.2.1.up hff.1, q1.2.2.2.2.2⟩, ⟨q2.1.up hff.1, q2.2.1, q2.2.2.1, q2.2.2.2.1.up hff.1, q2.2.2.2.2.1.up hff.1, q2.2.2.2.2.2⟩, fun y hy => hdj y hy⟩, hff, hne, fun _ => rfl, fun _ => Iff.rfl⟩
  refine s8.of (g_fr.wi (S := fun q => q = x) k v rfl) hxr fun q m h1 _ z => ?_
  subst z
  exact g_neOA s1.1 h1 rfl
end PREPARE
