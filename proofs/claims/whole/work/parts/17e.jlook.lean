/-! STAGES: $lookup, the class, whole -/
noncomputable def J_mk (os : List (List b_E)) (e : b_E) (es : List b_E) : List b_E := match b_ch e.2.2 with
  | [h, t, a] => J_doc (s_tx a.2.2) (p_sp (s_tx h.2.2)) (p_sp (s_tx t.2.2)) os es
  | _ => es
theorem J_3_inv {h t a : b_E} (g : J_3 h t a = 0) : (h.1 = 2 ∧ h.2.1 = b_tx 57 ∧ t.1 = 2 ∧ t.2.1 = b_tx 58 ∧ a.1 = 2 ∧ a.2.1 = b_tx 59 ∧ S_pl (s_tx a.2.2) = true) ∧ p_plain (s_tx h.2.2) ∧ p_plain (s_tx t.2.2) := by
  by_cases g1 : h.1 = 2 ∧ h.2.1 = b_tx 57 ∧ t.1 = 2 ∧ t.2.1 = b_tx 58 ∧ a.1 = 2 ∧ a.2.1 = b_tx 59 ∧ S_pl (s_tx a.2.2) = true
  · by_cases g2 : p_plain (s_tx h.2.2) ∧ p_plain (s_tx t.2.2)
    · exact ⟨g1, g2⟩
    · rw [J_3_3 g1 g2] at g
      exact absurd g (by decide)
  · rw [J_3_2 g1] at g
    exact absurd g (by decide)
theorem J_sf_n {e : b_E} (h : ¬ (e.1 = 3 ∧ (b_ch e.2.2).length = 3)) : J_sf e = 2 := by
  unfold J_sf
  by_cases hk : e.1 = 3
  · rw [if_pos hk]
    have hl : (b_ch e.2.2).length ≠ 3 := fun z => h ⟨hk, z⟩
    generalize b_ch e.2.2 = l at hl
    rcases l with _ | ⟨x, _ | ⟨y, _ | ⟨z, _ | ⟨w, l⟩⟩⟩⟩
    · rfl
    · rfl
    · rfl
    · exact absurd rfl hl
    · rfl
  · rw [if_neg hk]
theorem J_sf_3 {e h t a : b_E} (hk : e.1 = 3) (hc : b_ch e.2.2 = [h, t, a]) : J_sf e = J_3 h t a := by
  unfold J_sf
  rw [if_pos hk, hc]
theorem S_pl_nz {x : List Int} (h : S_pl x = true) : b_nz x := by
  unfold S_pl at h
  rw [Bool.and_eq_true, Bool.and_eq_true] at h
  intro c hc
  have := List.all_eq_true.mp h.2 c hc
  rw [Bool.and_eq_true] at this
  simpa using this.2
theorem J_nO {M : g_M} {o f t x ci : Nat} (hp : p_P M o f t) (h : g_O M x ci) (hc : ci ≠ 5) : ¬ p_S o f t x := by
  rintro (z | z | z)
  · exact g_neOO h hp.1 hc z
  · exact g_neOA h hp.2.2.2.1 z
  · exact g_neOA h hp.2.2.2.2.1 z
theorem J_nA {M : g_M} {o f t x y : Nat} {n : Int} (hp : p_P M o f t) (h : g_A M x y n) (hc : ¬ (y = 1 ∧ n = 8)) : ¬ p_S o f t x := by
  rintro (z | z | z)
  · exact g_neOA hp.1 h z.symm
  · exact g_neAA h hp.2.2.2.1 hc z
  · exact g_neAA h hp.2.2.2.2.1 hc z
/-- what a stage of the class leaves -/
def S_U (A : Nat → Prop) (so r b po pf pt tp tf tt ou sc : Nat) (c e : Int) (L : List Int) (M M1 : g_M) : Prop := S_Z A so r b po pf pt sc M M1 ∧ k_P M1 r b c e L ∧ g_r M1 ou 0 = some b ∧ p_P M1 tp tf tt
section CLOOK
variable {so r b po pf pt tp tf tt ou sc be fr sv oa : Nat} {M M1 M2 : g_M} {lo c e0 : Int} {L : List Int} {A : Nat → Prop} {os ds : List (List b_E)} {g : Int}
theorem S_U.tr (h : S_U A so r b po pf pt tp tf tt ou sc c e0 L M M1) (h2 : S_U A so r b po pf pt tp tf tt ou sc c e0 L M1 M2) : S_U A so r b po pf pt tp tf tt ou sc c e0 L M M2 := ⟨h.1.tr h2.1, h2.2⟩
theorem J_pth (hT : J_T so r b po pf pt tp tf tt ou sc be fr sv oa M) (hP : k_P M r b c e0 L) (f : g_fr (fun y => p_S po pf pt y ∨ p_S tp tf tt y) M M1) (g1 : p_P M1 po pf pt) (g2 : p_P M1 tp tf tt) (hA : ∀ y, S_9 so b po pf pt ou sc be fr y ∨ p_S tp tf tt y → A y) : S_U A so r b po pf pt tp tf tt ou sc c e0 L M M1 ∧ J_T so r b po pf pt tp tf tt ou sc be fr sv oa M1 ∧ g_i M1 so = g_i M so ∧ g_i M1 b = g_i M b ∧ g_i M1 be = g_i M be ∧ g_i M1 sv = g_i M sv ∧ g_i M1 oa = g_i M oa := by
  obtain ⟨⟨⟨s1, s2, s3⟩, w2, hp, ⟨w4, w5, w6, w7⟩, ⟨q1, q2, q3⟩, ⟨u1, u2⟩, ⟨v1, v2⟩, hne⟩, t1, ⟨t2, hp2, t4⟩, ⟨t5, t6, t7, t8, t9⟩⟩ := id hT
  have nO : ∀ {x ci : Nat}, g_O M x ci → ci ≠ 5 → ¬ (p_S po pf pt x ∨ p_S tp tf tt x) := fun h hc z => z.elim (J_nO hp h hc) (J_nO hp2 h hc)
  have nA : ∀ {x y : Nat} {n : Int}, g_A M x y n → ¬ (y = 1 ∧ n = 8) → ¬ (p_S po pf pt x ∨ p_S tp tf tt x) := fun h hc z => z.elim (J_nA hp h hc) (J_nA hp2 h hc)
  have es := f.2 so (nO s1 (by decide))
  have eb := f.2 b (nA s3 (by omega))
  have eo := f.2 ou (nO u1 (by decide))
  have ec := f.2 sc (nO v1 (by decide))
  have ev := f.2 sv (nO t6 (by decide))
  have ea := f.2 oa (nA t8 (by omega))
  have ee := f.2 be (nA q1 (by omega))
  have nr := nO hP.1 (by decide)
  refine ⟨⟨⟨(k_F.of f nr).up fun y z => hA y (z.elim (fun z => Or.inl (Or.inr (Or.inr (Or.inl z)))) Or.inr), fun k _ => by rw [es.1], fun k => by rw [es.2], fun k _ => by rw [eb.1], g1, by rw [ec.2]; exact v2⟩, hP.of f nr fun a n ha hn => nA ha fun z => by unfold k_n at hn; omega, by rw [eo.2]; exact u2, g2⟩, ⟨⟨⟨f.O s1, by rw [es.2]; exact s2, f.A s3⟩, by rw [es.2]; exact w2, g1, ⟨by rw [es.2]; exact w4, by rw [es.2]; exact w5, by rw [es.2]; exact w6, by rw [es.2]; exact w7⟩, ⟨f.A q1, f.A q2, q3⟩, ⟨f.O u1, by rw [eo.2]; exact u2⟩, ⟨f.O v1, by rw [ec.2]; exact v2⟩, hne⟩, by rw [es.2]; exact t1, ⟨by rw [es.2]; exact t2, g2, t4⟩, ⟨by rw [es.2]; exact t5, f.O t6, by rw [ev.2]; exact t7, f.A t8, t9⟩⟩, es.1, eb.1, ee.1, ev.1, ea.1⟩
theorem J_T.Y (hT : J_T so r b po pf pt tp tf tt ou sc be fr sv oa M) (hP : k_P M r b c e0 L) (hy : S_Y so b po pf pt ou sc be fr M M1) (hA : ∀ y, S_9 so b po pf pt ou sc be fr y ∨ p_S tp tf tt y → A y) : S_U A so r b po pf pt tp tf tt ou sc c e0 L M M1 ∧ J_T so r b po pf pt tp tf tt ou sc be fr sv oa M1 ∧ g_i M1 sv = g_i M sv ∧ g_i M1 oa = g_i M oa ∧ g_i M1 tp = g_i M tp ∧ g_r M1 tp = g_r M tp ∧ g_i M1 tf = g_i M tf ∧ g_i M1 tt = g_i M tt := by
  obtain ⟨z1, z2⟩ := hy.z hT.1 hP (A := A) fun y hy => hA y (Or.inl hy)
  have hS1 := hy.T hT.1
  obtain ⟨hS, t1, ⟨t2, ⟨T1, T2, T3, T4, T5, T6⟩, ⟨n1, n2, n3, n4, n5⟩⟩, ⟨t5, t6, t7, t8, t9, t10⟩⟩ := id hT
  obtain ⟨⟨s1, s2, s3⟩, w2, ⟨P1, P2, P3, P4, P5, P6⟩, -, ⟨q1, q2, q3⟩, ⟨u1, u2⟩, ⟨v1, v2⟩, hne⟩ := id hS
  obtain ⟨a1, a2, a3, a4, a5, a6, a7⟩ := id hy
  have rs : ∀ k, g_r M1 so k = g_r M so k := a2 so (g_neOO s1 P1 (by decide)) (g_neOA s1 P4) (g_neOA s1 P5) (g_neOO s1 v1 (by decide)) (g_neOA s1 s3)
  have rt : ∀ k, g_r M1 tp k = g_r M tp k := a2 tp n1.symm (g_neOA T1 P4) (g_neOA T1 P5) (g_neOO T1 v1 (by decide)) (g_neOA T1 s3)
  have rv : ∀ k, g_r M1 sv k = g_r M sv k := a2 sv (g_neOO t6 P1 (by decide)) (g_neOA t6 P4) (g_neOA t6 P5) (g_neOO t6 v1 (by decide)) (g_neOA t6 s3)
  have it : ∀ k, g_i M1 tp k = g_i M tp k := a3 tp (g_neOO T1 s1 (by decide)) (g_neOA T1 s3) n1.symm (g_neOA T1 P4) (g_neOA T1 P5) (g_neOO T1 u1 (by decide)) (g_neOO T1 v1 (by decide)) (g_neOA T1 q2) (g_neOA T1 q1)
  have iv : ∀ k, g_i M1 sv k = g_i M sv k := a3 sv (g_neOO t6 s1 (by decide)) (g_neOA t6 s3) (g_neOO t6 P1 (by decide)) (g_neOA t6 P4) (g_neOA t6 P5) (g_neOO t6 u1 (by decide)) (g_neOO t6 v1 (by decide)) (g_neOA t6 q2) (g_neOA t6 q1)
  have ia : ∀ k, g_i M1 oa k = g_i M oa k := a3 oa (g_neOA s1 t8).symm (g_neAA t8 s3 (by omega)) (g_neOA P1 t8).symm (g_neAA t8 P4 (by omega)) (g_neAA t8 P5 (by omega)) (g_neOA u1 t8).symm (g_neOA v1 t8).symm t10 t9
  have i8 : ∀ {x : Nat}, g_A M x 1 8 → x ≠ pf → x ≠ pt → ∀ k, g_i M1 x k = g_i M x k := fun {x} h k1 k2 => a3 x (g_neOA s1 h).symm (g_neAA h s3 (by omega)) (g_neOA P1 h).symm k1 k2 (g_neOA u1 h).symm (g_neOA v1 h).symm (g_neAA h q2 (by omega)) (g_neAA h q1 (by omega))
  have fT : g_fr (fun _ => True) M M1 := ⟨a1, fun y hy => absurd trivial hy⟩
  have hp2 : p_P M1 tp tf tt := ⟨fT.O T1, by rw [rt]; exact T2, by rw [rt]; exact T3, fT.A T4, fT.A T5, T6⟩
  exact ⟨⟨z1, z2, hS1.2.2.2.2.2.1.2, hp2⟩, ⟨hS1, by rw [rs]; exact t1, ⟨by rw [rs]; exact t2, hp2, n1, n2, n3, n4, n5⟩, ⟨by rw [rs]; exact t5, fT.O t6, by rw [rv]; exact t7, fT.A t8, t9, t10⟩⟩, funext iv, funext ia, funext it, funext rt, funext (i8 T4 n2.symm n4.symm), funext (i8 T5 n3.symm n5.symm)⟩
theorem J_X.U (hT : J_T so r b po pf pt tp tf tt ou sc be fr sv oa M) (hP : k_P M r b c e0 L) (h : J_X so r b ou fr lo M M1) (hlo : 82808 ≤ lo) (hP1 : k_P M1 r b c e0 L) (hA : ∀ y, S_9 so b po pf pt ou sc be fr y ∨ p_S tp tf tt y → A y) : S_U A so r b po pf pt tp tf tt ou sc c e0 L M M1 := by
  have hT1 := h.T hT hP
  refine ⟨⟨h.1.up fun y z => hA y (Or.inl ?_), fun k hk => h.2.1 k (by omega) (by omega) (by omega), fun k => h.2.2.1 so (Or.inl rfl) k, fun k hk => h.2.2.2 k (by omega), hT1.1.2.2.1, hT1.1.2.2.2.2.2.2.1.2⟩, hP1, hT1.1.2.2.2.2.2.1.2, hT1.2.2.1.2.1⟩
  rcases z with z | z | z | z
  · exact Or.inl z
  · exact Or.inr (Or.inl z)
  · exact Or.inr (Or.inr (Or.inr (Or.inl z)))
  · exact Or.inr (Or.inr (Or.inr (Or.inr (Or.inr (Or.inr z)))))
theorem S_Pa.eq {F F2 : Int → Int} {o f t s : Nat} {st : List (List Int)} (h : S_Pa F b o f t s st M) (hF : F2 = F) (h1 : g_i M1 o = g_i M o) (h2 : g_r M1 o = g_r M o) (h3 : g_i M1 f = g_i M f) (h4 : g_i M1 t = g_i M t) : S_Pa F2 b o f t s st M1 := by
  subst hF
  obtain ⟨a1, a2, a3⟩ := h
  exact ⟨by rw [h2]; exact a1, by rw [h1]; exact a2, by rw [h3, h4]; exact a3⟩
theorem c_lookup {d De : Nat} {Q : Int → g_M → Prop} {pe : Int} {e : b_E} (hT : J_T so r b po pf pt tp tf tt ou sc be fr sv oa M) (hP : k_P M r b c e0 L) (hL : L.length ≤ 100) (ho : J_os b sv oa os M) (hno : b_at (g_i M b) 0 [10, 0]) (hg : g_i M so 17 = g) (hg01 : g = 0 ∨ g = 1) (hbt : S_belt so b be g ds M) (he : b_st (g_i M b) 2100 pe De e.1 e.2.1 e.2.2) (hA : ∀ y, S_9 so b po pf pt ou sc be fr y ∨ p_S tp tf tt y → A y) (hq : J_sf e ≠ 0 → ∀ M1, S_U A so r b po pf pt tp tf tt ou sc c e0 L M M1 → Q (J_sf e) M1) (hf5 : J_sf e = 0 → S_bad (ds.map (J_mk os e)) → ∀ M1, S_U A so r b po pf pt tp tf tt ou sc c e0 L M M1 → Q 5 M1) (hf0 : J_sf e = 0 → ¬ S_bad (ds.map (J_mk os e)) → ∀ M1, S_U A so r b po pf pt tp tf tt ou sc c e0 L M M1 → g_i M1 so 17 = 1 - g → S_belt so b be (1 - g) (ds.map (J_mk os e)) M1 → Q 0 M1) : g_Call (d + 71) 169 [.ref so, g_n pe] M (g_qI Q) := by
  obtain ⟨⟨⟨s1, s2, s3⟩, w2, hp, -⟩, t1, ⟨t2, hp2, t4⟩, -⟩ := id hT
  have hpeR := he.R (by decide)
  have he4 := he.2.2.2.1
  have he5 := he.2.2.2.2
  have heM : b_st (g_i M b) 246408 pe De e.1 e.2.1 e.2.2 := ⟨he.1, he.2.1, he.2.2.1, he4, by omega⟩
  have hPY : S_Y so b po pf pt ou sc be fr M M := S_Y.e hT.1 (e_fr.rf (fun _ _ => False) M) fun _ _ z => z.elim
  have hU0 : S_U A so r b po pf pt tp tf tt ou sc c e0 L M M := (J_T.Y hT hP hPY hA).1
  refine m_X9_lookup hpeR fun _ => ⟨s1, b, s2, c_fi2 (d := d + 69) s3 (by decide) heM ?_⟩
  intro _ _ h7R
  by_cases h3 : e.1 = 3 ∧ (b_ch e.2.2).length = 3
  rotate_left
  · have hsf := J_sf_n h3
    refine ⟨b, s2, c_nextAny (d := d + 69) s3 (by decide) h7R fun r14 h14R => ?_⟩
    intro _ _ _
    refine ⟨b, s2, c_nextAny (d := d + 69) s3 (by decide) h14R fun r21 h21R => ?_⟩
    intro _ _ _
    refine c_wrongInLookupN (d := d + 66) ⟨s1, s2, s3⟩ he h7R h14R h21R h3 ?_
    intro _ _ _
    refine ⟨fun z => absurd z (by decide), fun _ => ?_⟩
    have := hq (by rw [hsf]; decide) M hU0
    rwa [hsf] at this
  obtain ⟨hk, hc3⟩ := h3
  obtain ⟨h, t, a, hch⟩ : ∃ h t a, b_ch e.2.2 = [h, t, a] := by
    generalize b_ch e.2.2 = l at hc3
    rcases l with _ | ⟨x, _ | ⟨y, _ | ⟨z, _ | ⟨w, l⟩⟩⟩⟩
    · exact absurd hc3 (by decide)
    · exact absurd hc3 (by simp)
    · exact absurd hc3 (by simp)
    · exact ⟨x, y, z, rfl⟩
    · exact absurd hc3 (by simp)
  have hsf := J_sf_3 hk hch
  have hmk : J_mk os e = J_doc (s_tx a.2.2) (p_sp (s_tx h.2.2)) (p_sp (s_tx t.2.2)) os := by
    funext es
    unfold J_mk
    rw [hch]
  rw [hsf] at hq hf5 hf0
  rw [hmk] at hf5 hf0
  obtain ⟨D1, eD, hkids, hkl⟩ := he.kids (Or.inl hk)
  rw [hch] at hkids
  obtain ⟨hh0, hr1⟩ := hkids.cons
  obtain ⟨ht0, hr2⟩ := hr1.cons
  obtain ⟨ha0, -⟩ := hr2.cons
  obtain ⟨qh, hqh⟩ : ∃ q : Int, q = pe + 6 + e.2.1.length := ⟨_, rfl⟩
  rw [← hqh] at hh0 ht0 ha0 ⊢
  obtain ⟨qt, hqt⟩ : ∃ q : Int, q = qh + (b_el h.1 h.2.1 h.2.2).length := ⟨_, rfl⟩
  rw [← hqt] at ht0 ha0
  obtain ⟨qa, hqa⟩ : ∃ q : Int, q = qt + (b_el t.1 t.2.1 t.2.2).length := ⟨_, rfl⟩
  rw [← hqa] at ha0
  have hup : ∀ {q : Int} {x : b_E}, b_st (g_i M b) 2100 q D1 x.1 x.2.1 x.2.2 → b_st (g_i M b) 246408 q D1 x.1 x.2.1 x.2.2 := fun h => ⟨h.1, h.2.1, h.2.2.1, h.2.2.2.1, by have := h.2.2.2.2; omega⟩
  have hhM := hup hh0
  have htM := hup ht0
  have haM := hup ha0
  have hqhR := hhM.R (by decide)
  have hqtR := htM.R (by decide)
  have hqaR := haM.R (by decide)
  refine ⟨b, s2, c_nx2 (d := d + 69) s3 (by decide) hhM ?_⟩
  rw [← hqt]
  intro _ _ _
  refine ⟨b, s2, c_nx2 (d := d + 69) s3 (by decide) htM ?_⟩
  rw [← hqa]
  intro _ _ _
  refine c_wrongInLookup (d := d + 66) ⟨s1, s2, s3⟩ w2 t2 hp hp2 t4 he hk hch hhM htM haM fun M1 f1 g1 g2 hpis => ?_
  intro _ _ _
  obtain ⟨U1, hT1, eso, eb, ebe, esv, eoa⟩ := J_pth hT hP f1 g1 g2 hA
  have hP1 := U1.2.1
  refine ⟨fun g0 => ?_, fun g0 => hq g0 M1 U1⟩
  obtain ⟨⟨k1, -, k2, -, k3, -, k4⟩, k5, k6⟩ := J_3_inv g0
  obtain ⟨i1, i2⟩ := hpis g0
  obtain ⟨⟨⟨s1, s2, s3⟩, w2, hp, -⟩, t1, ⟨t2, hp2, t4⟩, -⟩ := id hT1
  obtain ⟨x1, x2, x3, x4⟩ := hhM.text k1
  obtain ⟨y1, y2, y3, y4⟩ := htM.text k2
  obtain ⟨z1, z2, z3, z4⟩ := haM.text k3
  have hh5 := hh0.2.2.2.2
  have ht5 := ht0.2.2.2.2
  have ha5 := ha0.2.2.2.2
  rw [b_el_len] at hh5 ht5 ha5
  have hh4 := hh0.2.2.2.1
  have ht4 := ht0.2.2.2.1
  have ha4 := ha0.2.2.2.1
  have haM1 : b_st (g_i M1 b) 246408 qa D1 a.1 a.2.1 a.2.2 := by rw [eb]; exact haM
  refine ⟨b, s2, c_va2 (d := d + 69) s3 (by decide) haM1 ?_⟩
  intro _ _ _
  refine ⟨⟨by omega, by omega⟩, ⟨by omega, by omega⟩, b, s2, ⟨by omega, by omega⟩, c_w4 (d := d + 69) s3 ⟨by decide, by decide⟩ (by omega) (by omega) ?_⟩
  rw [show qa + 2 + (a.2.1.length : Int) + 4 - 4 = qa + 2 + a.2.1.length by omega, eb, z2]
  intro _ _ _
  refine ⟨⟨by omega, by omega⟩, ?_⟩
  obtain ⟨fm, hfm⟩ : ∃ fm : Int, fm = qa + 2 + a.2.1.length + 4 := ⟨_, rfl⟩
  rw [← hfm] at z3 ⊢
  rw [show fm - 1 + (((s_tx a.2.2).length : Int) + 1) = fm + (s_tx a.2.2).length by omega]
  have hbt1 : S_belt so b be g ds M1 := hbt.keep (by rw [eso]) (fun k => by rw [ebe]) fun k _ _ => by rw [eb]
  have hpa1 : S_Pa (g_i M1 b) b po pf pt 0 (p_sp (s_tx h.2.2)) M1 := ⟨i1.1, by rw [i1.2.1]; omega, by rw [eb]; exact p_rb_of _ (Nat.le_refl _) x3 i1.2.2.2 (by omega) (by omega)⟩
  have hpb1 : S_Pa (g_i M1 b) b tp tf tt 0 (p_sp (s_tx t.2.2)) M1 := ⟨i2.1, by rw [i2.2.1]; omega, by rw [eb]; exact p_rb_of _ (Nat.le_refl _) y3 i2.2.2.2 (by omega) (by omega)⟩
  refine c_beginM (d := d + 68) (g := g) hT1.1 (by rw [eso]; exact hg) hg01 hbt1 fun M2 hY2 hS2 h17 _ hbt2 hD2 _ hb2 f12 => ?_
  intro _ _
  obtain ⟨U2, hT2, esv2, eoa2, etp2, rtp2, etf2, ett2⟩ := J_T.Y hT1 hP1 hY2 hA
  have hP2 := U2.2.1
  have hpa2 : S_Pa (g_i M2 b) b po pf pt 0 (p_sp (s_tx h.2.2)) M2 := by
    have hne := hT1.1.n1
    have hn3 := hT1.1.n3
    rw [hb2]
    refine hpa1.ef f12 (fun k z => ?_) (fun k z => ?_) fun k z => ?_
    · rcases z with z | z | z
      · exact hne.2.1 z.symm
      · exact hn3.1.1 z
      · exact hn3.1.2.1 z
    · rcases z with z | z | z
      · exact hne.2.2.1 z.symm
      · exact hn3.2.1.1 z
      · exact hn3.2.1.2.1 z
    · rcases z with z | z | z
      · exact hne.2.2.2.1 z.symm
      · exact hn3.2.2.1.1 z
      · exact hn3.2.2.1.2.1 z
  have hpb2 : S_Pa (g_i M2 b) b tp tf tt 0 (p_sp (s_tx t.2.2)) M2 := hpb1.eq hb2 etp2 rtp2 etf2 ett2
  have hos2 : J_os b sv oa os M2 := by
    obtain ⟨o1, o2, o3⟩ := ho
    exact ⟨by rw [esv2, esv]; exact o1, o2, fun i es hi => by rw [eoa2, eoa, hb2, eb]; exact o3 i es hi⟩
  have hno2 : b_at (g_i M2 b) 0 [10, 0] := by rw [hb2, eb]; exact hno
  have hnm2 : b_at (g_i M2 b) fm (s_tx a.2.2) := by rw [hb2, eb]; exact z3
  obtain ⟨h14, hok, hpl⟩ := id hbt2
  obtain ⟨hlo1, hlo2, -⟩ := S_lo_R hg01
  have hl200 := hok.1
  obtain ⟨mk, hmk⟩ : ∃ mk, mk = J_doc (s_tx a.2.2) (p_sp (s_tx h.2.2)) (p_sp (s_tx t.2.2)) os := ⟨_, rfl⟩
  rw [← hmk] at hf5 hf0
  have hlp : ∀ (n i : Nat) (M3 : g_M) (u : List Int), i + n = ds.length → J_X so r b ou fr (S_lo g) M2 M3 → k_P M3 r b c e0 L → S_D so b ou fr (S_lo g) (40000 + 40400 * i) ((ds.take i).map mk) u M3 → g_Run (d + 70) 169 85 [(0, .ref so), (1, g_n pe), (2, g_n qh), (3, g_n qt), (4, g_n qa), (5, g_n (J_3 h t a)), (6, g_n fm), (7, g_n (fm + (s_tx a.2.2).length)), (8, g_n i)] [] M3 (g_qI Q) := by
    have h5R : g_InR (J_3 h t a) := by rw [g0]; exact ⟨by decide, by decide⟩
    intro n
    induction n with
    | zero =>
      intro i M3 u hi hX3 hP3 hD3
      have hT3 := hX3.T hT2 hP2
      have U3 := hX3.U hT2 hP2 hlo1 hP3 hA
      have h143 : g_i M3 so 14 = ds.length := by rw [hX3.2.1 14 (by decide) (by decide) (by decide)]; exact h14
      rw [List.take_of_length_le (by omega)] at hD3
      refine s_X9_lookup_85 hpeR hqhR hqtR hqaR h5R ⟨by omega, by omega⟩ ⟨by omega, by omega⟩ ⟨by omega, by omega⟩ fun _ => ⟨hT3.1.1.1, fun z => absurd z (by omega), fun _ => c_endM (d := d + 69) (g := g) hT3.1 (by rw [hX3.2.1 17 (by decide) (by decide) (by decide)]; exact h17) hg01 hD3 (fun es2 hes2 => ?_) ⟨fun z M4 h4 => ?_, fun z M4 h4 k1 k2 => ?_⟩⟩
      · obtain ⟨es, hes, rfl⟩ := List.mem_map.mp hes2
        rw [hmk]
        exact J_doc_good (S_pl_nz k4) ho.2.1 (hok.2.2 es hes).2
      · intro _ _ _
        exact hf5 g0 z M4 (((U1.tr U2).tr U3).tr (J_T.Y hT3 hP3 h4 hA).1)
      · intro _ _ _
        exact hf0 g0 z M4 (((U1.tr U2).tr U3).tr (J_T.Y hT3 hP3 h4 hA).1) k1 k2
    | succ n ih =>
      intro i M3 u hi hX3 hP3 hD3
      obtain ⟨es, hes⟩ : ∃ es, ds[i]? = some es := ⟨_, List.getElem?_eq_getElem (by omega)⟩
      obtain ⟨p, p1, p2, p3⟩ := hpl i es hes
      obtain ⟨m1, m2⟩ := hok.2.2 es (List.mem_of_getElem? hes)
      refine c_joinDoc (d := d) hT2 hP2 hL hlo1 hlo2 hos2 hno2 hpa2 hpb2 k5.1.2.1 k6.1.2.1 hpeR hqhR hqtR hqaR h5R p1 (by omega) (by rw [h14]; omega) (S_pl_nz k4) hnm2 (by omega) (by omega) p2 (fun k k1 k2 => (p3 k k1 k2).2) m1 m2 hX3 hP3 hD3 (by omega) (by omega) fun M4 u4 hX4 hP4 hD4 => ?_
      have htk : ds.take (i + 1) = ds.take i ++ [es] := by rw [List.take_add_one, hes]; rfl
      have h9 := ih (i + 1) M4 u4 (by omega) hX4 hP4 (by
        rw [htk, List.map_append, show (40000 + 40400 * ((i + 1 : Nat) : Int)) = 40000 + 40400 * (i : Int) + 40400 by omega]
        rw [← hmk] at hD4
        exact hD4)
      rwa [show ((i + 1 : Nat) : Int) = (i : Int) + 1 by omega] at h9
  exact hlp ds.length 0 M2 [] (by omega) J_X.rf hP2 hD2
end CLOOK
