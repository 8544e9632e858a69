/-! STAGES: a pipeline from its beginning to its answer, the class -/
def P_an (ds : List (List b_E)) : List Int := b_el 16 (b_tx 29) (b_le4 ds.length) ++ b_el 4 (b_tx 30) (b_doc (J_row 0 ds))
def P_sh (b sh oh : Nat) (ds : List (List b_E)) (M : g_M) : Prop := g_i M sh 6 = ds.length ∧ S_ok ds ∧ ∀ (i : Nat) (es : List b_E), ds[i]? = some es → ∃ p, g_i M oh i = p ∧ b_st (g_i M b) 82808 p 16 3 [] (b_doc es) ∧ 2008 ≤ p
theorem P_sh.os {b sh oh : Nat} {ds : List (List b_E)} {M : g_M} (h : P_sh b sh oh ds M) : J_os b sh oh ds M := ⟨h.1, h.2.1, fun i es hi => by
  obtain ⟨p, p1, p2, -⟩ := h.2.2 i es hi
  exact ⟨p, p1, p2⟩⟩
theorem g_O.ev {M : g_M} {a ci : Nat} (h : g_O M a ci) : a % 2 = 0 := by
  unfold g_O g_sh at h
  by_cases g : a % 2 = 0
  · exact g
  · rw [if_neg g] at h
    cases h
section CTELL
variable {x ow ab so b be : Nat} {M : g_M} {g : Int} {u : List Int} {ds : List (List b_E)} {Q : g_M → Prop}
theorem c_tell {d : Nat} {v1 v2 : Int} (hv1 : g_InR v1) (hv2 : g_InR v2) (hx : g_O M x 11) (x0 : g_r M x 0 = some b) (x1 : g_r M x 1 = some ow) (x5 : g_r M x 5 = some so) (hS : S_B so b M) (h6 : g_r M so 6 = some be) (hbe : g_A M be 1 200) (hbt : S_belt so b be g ds M) (hW : c_Wr ow ab 8000 0 8000 u M) (hq : ∀ M1, e_fr (c_WL ow ab 0 8000) M M1 → c_Wr ow ab 8000 0 8000 (u ++ P_an ds) M1 → Q M1) : g_Run (d + 4) 223 177 [(0, .ref x), (1, g_n v1), (2, g_n v2)] [] M (g_qV Q) := by
  obtain ⟨s1, s2, s3⟩ := id hS
  obtain ⟨h14, hok, hpl⟩ := id hbt
  have hl200 := hok.1
  have how := hW.1.1
  have hab := hW.1.2.2.1
  have n1 : so ≠ ow := g_neOO s1 how (by decide)
  have n2 : so ≠ ab := g_neOA s1 hab
  have n3 : be ≠ ow := fun z => g_neOA how hbe z.symm
  have n4 : be ≠ ab := g_neAA hbe hab (by omega)
  have n5 : b ≠ ow := fun z => g_neOA how s3 z.symm
  have n6 : b ≠ ab := g_neAA s3 hab (by omega)
  have hkeep : ∀ {M2 : g_M}, e_fr (c_WL ow ab 0 8000) M M2 → g_i M2 so 14 = ds.length ∧ (∀ k, g_i M2 be k = g_i M be k) ∧ g_i M2 b = g_i M b := fun f => ⟨by
    rw [f.2.1 so 14 fun z => by
      rcases z with ⟨z, -⟩ | ⟨z, -⟩
      · exact n1 z
      · exact n2 z]
    exact h14, fun k => f.2.1 be k fun z => by
      rcases z with ⟨z, -⟩ | ⟨z, -⟩
      · exact n3 z
      · exact n4 z, funext fun k => f.2.1 b k fun z => by
      rcases z with ⟨z, -⟩ | ⟨z, -⟩
      · exact n5 z
      · exact n6 z⟩
  refine s_X11_pipeline_177 hv1 hv2 fun _ => ⟨hx, ow, x1, so, x5, s1, how, ?_⟩
  rw [h14]
  refine c_named2 (d := d) (by decide) hW ⟨by omega, by omega⟩ fun M8 f8 W8 => ?_
  intro _ _
  refine ⟨ow, by rw [f8.2.2]; exact x1, W8.1.1, c_head (d := d + 1) (k := 4) (j := 30) (by decide) W8 (by decide) (by decide) fun M14 f14 W14 => ?_⟩
  intro _ _
  have f014 := f8.tr f14
  refine ⟨ow, by rw [f014.2.2]; exact x1, W14.1.1, c_open (d := d + 2) W14 fun r M20 f20 W20 hr => ?_⟩
  intro _ _ hrR
  have f020 := f014.tr f20
  obtain ⟨pre, hpre⟩ : ∃ pre : List Int, pre = u ++ b_el 16 (b_tx 29) (b_le4 ds.length) ++ (4 :: (b_tx 30 ++ [0])) := ⟨_, rfl⟩
  rw [← hpre] at W20 hr
  have hlp : ∀ (t i : Nat) (M3 : g_M), i + t = ds.length → e_fr (c_WL ow ab 0 8000) M M3 → c_Wr ow ab 8000 0 8000 (pre ++ ([0, 0, 0, 0] ++ b_ser (J_row 0 (ds.take i)))) M3 → g_Run (d + 4) 223 215 [(0, .ref x), (1, g_n v1), (2, g_n r), (3, g_n i)] [] M3 (g_qV Q) := by
    intro t
    induction t with
    | zero =>
      intro i M3 hi f3 W3
      obtain ⟨e1, e2, e3⟩ := hkeep f3
      rw [List.take_of_length_le (by omega)] at W3
      refine s_X11_pipeline_215 hv1 hrR ⟨by omega, by omega⟩ fun _ => ⟨f3.O hx, so, by rw [f3.2.2]; exact x5, f3.O s1, fun z => absurd z (by omega), fun _ => ⟨ow, by rw [f3.2.2]; exact x1, W3.1.1, c_close (d := d + 2) W3 hr fun M4 f4 W4 => ?_⟩⟩
      intro _ _
      refine hq M4 (f3.tr f4) ?_
      have he : pre ++ (b_le4 (((b_ser (J_row 0 ds)).length : Int) + 5) ++ (b_ser (J_row 0 ds) ++ [0])) = u ++ P_an ds := by
        rw [hpre]
        unfold P_an b_doc
        have h5 : b_el 4 (b_tx 30) (b_le4 ((b_ser (J_row 0 ds)).length + 5) ++ (b_ser (J_row 0 ds) ++ [0])) = 4 :: (b_tx 30 ++ 0 :: (b_le4 ((b_ser (J_row 0 ds)).length + 5) ++ (b_ser (J_row 0 ds) ++ [0]))) := rfl
        rw [h5]
        simp
      rw [he] at W4
      exact W4
    | succ t ih =>
      intro i M3 hi f3 W3
      obtain ⟨e1, e2, e3⟩ := hkeep f3
      obtain ⟨es, hes⟩ : ∃ es, ds[i]? = some es := ⟨_, List.getElem?_eq_getElem (by omega)⟩
      obtain ⟨p, p1, p2, -⟩ := hpl i es hes
      have p4 := p2.2.2.2.1
      have p5 := p2.2.2.2.2
      refine s_X11_pipeline_215 hv1 hrR ⟨by omega, by omega⟩ fun _ => ⟨f3.O hx, so, by rw [f3.2.2]; exact x5, f3.O s1, fun _ => ⟨ow, by rw [f3.2.2]; exact x1, W3.1.1, c_item (d := d + 2) (k := 3) (i := i) W3 (by decide) (by decide) (by omega) fun M4 f4 W4 => ?_⟩, fun z => absurd (by omega) z⟩
      intro _ _
      have f04 := f3.tr f4
      obtain ⟨e41, e42, e43⟩ := hkeep f04
      refine ⟨ow, by rw [f04.2.2]; exact x1, b, by rw [f04.2.2]; exact x0, so, by rw [f04.2.2]; exact x5, f04.O s1, be, by rw [f04.2.2]; exact h6, 200, f04.A hbe, ⟨by omega, by omega⟩, W4.1.1, ?_⟩
      rw [e42, p1]
      refine c_outVal (d := d + 2) (D := 16) (k := 3) (nm := []) (vb := b_doc es) W4 (f04.A s3) (by decide) (by rw [e43]; exact ⟨p2.1, p2.2.1, p2.2.2.1, p4, by omega⟩) fun M5 f5 W5 => ?_
      intro _ _
      have htk : ds.take (i + 1) = ds.take i ++ [es] := by rw [List.take_add_one, hes]; rfl
      have h9 := ih (i + 1) M5 (by omega) (f04.tr f5) (by
        rw [htk, J_row_snoc, b_ser_app, b_ser_1, List.length_take, Nat.min_eq_left (by omega), Nat.zero_add]
        have h5 : b_el 3 (b_dg i) (b_doc es) = 3 :: (b_dg i ++ 0 :: b_doc es) := rfl
        show c_Wr ow ab 8000 0 8000 (pre ++ ([0, 0, 0, 0] ++ (b_ser (J_row 0 (ds.take i)) ++ b_el 3 (b_dg i) (b_doc es)))) M5
        rw [h5]
        have h6 : pre ++ ([0, 0, 0, 0] ++ (b_ser (J_row 0 (ds.take i)) ++ (3 :: (b_dg i ++ 0 :: b_doc es)))) = pre ++ ([0, 0, 0, 0] ++ b_ser (J_row 0 (ds.take i))) ++ (3 :: (b_dg i ++ [0])) ++ b_doc es := by simp
        rw [h6]
        exact W5)
      rw [show ((i + 1 : Nat) : Int) = (i : Int) + 1 by omega] at h9
      exact ⟨⟨by omega, by omega⟩, h9⟩
  exact hlp ds.length 0 M20 (by omega) f020 (by
    rw [List.take_zero]
    exact W20)
end CTELL
section CBEGIN
variable {x so r b po pf pt tp tf tt ou sc be fr sv oa ke gr va kk wa o qo qf qt : Nat} {M : g_M} {c e0 : Int} {os ds : List (List b_E)}
theorem c_begin {d sh oh : Nat} {Q : g_M → Prop} (hC : P_C so r b po pf pt tp tf tt ou sc be fr sv oa ke gr va kk wa o qo qf qt c e0 (g_wr M so 13 (some sv))) (hsh : g_O M sh 8) (hoh : g_r M sh 2 = some oh) (hoA : g_A M oh 1 200) (hne : oh ≠ be) (hd : P_sh b sh oh ds M) (hq : ∀ M1, S_U (P_B so b po pf pt tp tf tt ou sc be fr ke gr va kk wa o qo qf qt (g_wr M so 13 (some sv))) so r b po pf pt tp tf tt ou sc c e0 [] (g_wr M so 13 (some sv)) M1 → P_C so r b po pf pt tp tf tt ou sc be fr sv oa ke gr va kk wa o qo qf qt c e0 M1 → g_i M1 sv = g_i M sv → g_i M1 oa = g_i M oa → g_r M1 kk = g_r M kk → g_i M1 so 17 = 0 → S_belt so b be 0 ds M1 → Q M1) : g_Call (d + 1) 135 [.ref so, .ref sh, .ref sv] M (g_qV Q) := by
  obtain ⟨⟨s1, s2, s3⟩, t2, hpp, ⟨t4, t5, t6, t7⟩, ⟨hbe, hfr, hbf⟩, -⟩ := id hC.1.1
  have hP := hC.2.2.1.2.1
  have s1M : g_O M so 9 := s1
  have hbeM : g_A M be 1 200 := hbe
  have t6M : g_r M so 6 = some be := by
    have h9 := t6
    rw [g_r_wr, if_neg (fun z => absurd z.2 (by decide))] at h9
    exact h9
  obtain ⟨d6, hok, hpl⟩ := hd
  have hl200 := hok.1
  have n1 : so ≠ be := g_neOA s1 hbe
  have n2 : sh ≠ so := g_neOO hsh s1M (by decide)
  have n3 : oh ≠ so := fun z => g_neOA s1M hoA z.symm
  have n4 : b ≠ so := fun z => g_neOA s1 s3 z.symm
  have n5 : b ≠ be := g_neAA s3 hbe (by omega)
  refine m_X9_begin fun _ => ⟨hsh, s1M, be, t6M, 200, hbeM, ⟨by decide, by decide⟩, fun M8 e8 _ => ?_⟩
  have h14 : g_i M8 so 14 = ds.length := by
    subst e8
    rw [g_i_wi, if_pos ⟨rfl, rfl⟩, d6]
    omega
  have x8 : M8.1 = M.1 := by subst e8; rfl
  have hA8 : ∀ {a t : Nat} {n : Int}, g_A M a t n → g_A M8 a t n := fun h => by
    subst e8
    exact h
  refine ⟨oh, by subst e8; exact hoh, be, by subst e8; exact t6M, 200, hA8 hoA, 200, hA8 hbeM, ⟨by decide, by decide, by omega, by omega, by omega⟩, fun M21 e21 _ M25 e25 _ M29 e29 _ => ?_⟩
  rw [h14] at e21
  have f : e_fr (fun y k => (y = so ∧ (k = 14 ∨ k = 17)) ∨ y = be) (g_wr M so 13 (some sv)) M29 := by
    subst e29 e25 e21 e8
    refine ⟨rfl, fun y k hy => ?_, fun y k => rfl⟩
    rw [g_i_wi, if_neg fun z => hy (Or.inl ⟨z.1, Or.inr z.2⟩), g_i_wr, g_i_cp, if_neg fun z => hy (Or.inr z.1), g_i_wi, if_neg fun z => hy (Or.inl ⟨z.1, Or.inl z.2⟩), g_i_wr]
  have h17 : g_i M29 so 17 = 0 := by
    subst e29
    rw [g_i_wi, if_pos ⟨rfl, rfl⟩]
  have h142 : g_i M29 so 14 = ds.length := by
    subst e29 e25 e21
    rw [g_i_wi, if_neg fun z => absurd z.2 (by decide), g_i_wr, g_i_cp, if_neg fun z => n1 z.1]
    exact h14
  have hbp : ∀ i : Nat, i < ds.length → g_i M29 be i = g_i M oh i := fun i hi => by
    subst e29 e25 e21 e8
    rw [g_i_wi, if_neg fun z => n1 z.1.symm, g_i_wr, g_i_cp, if_pos ⟨rfl, by omega, by omega⟩, g_i_wi, if_neg fun z => n3 z.1, show (0 : Int) + ((i : Int) - 0) = i by omega]
  have hb : g_i M29 b = g_i M b := funext fun k => by
    rw [f.2.1 b k fun z => by
      rcases z with ⟨z, -⟩ | z
      · exact n4 z
      · exact n5 z]
    rfl
  have hy := S_Y.e hC.1.1 f fun y k z => by
    rcases z with ⟨z, z2⟩ | z
    · exact Or.inl ⟨z, by omega, by omega⟩
    · exact Or.inr (Or.inr (Or.inr (Or.inr (Or.inl z))))
  have hU := (J_T.Y (A := P_A so b po pf pt tp tf tt ou sc be fr ke gr va kk wa (g_wr M so 13 (some sv))) hC.1 hP hy fun y z => Or.inl (z.elim Or.inl fun z => Or.inr (Or.inl z))).1
  obtain ⟨C1, c1, c2, c3⟩ := hC.st hU
  have hkk : g_r (g_wr M so 13 (some sv)) kk = g_r M kk := funext fun k => by
    rw [g_r_wr, if_neg fun z => g_neOA s1 hC.2.2.1.2.2.2.1.2 z.1.symm]
  refine hq M29 (hU.up fun y hy => Or.inl hy) C1 c1 c2 (c3.trans hkk) h17 ⟨h142, hok, fun i es hi => ?_⟩
  obtain ⟨p, p1, p2, p3⟩ := hpl i es hi
  have hi2 : i < ds.length := (List.getElem?_eq_some_iff.mp hi).1
  have p5 := p2.2.2.2.2
  refine ⟨p, by rw [hbp i hi2]; exact p1, by rw [hb]; exact ⟨p2.1, p2.2.1, p2.2.2.1, p2.2.2.2.1, by omega⟩, fun k k1 k2 => ⟨by omega, fun z => ?_⟩⟩
  rw [show S_lo 0 = 123208 from rfl] at z
  omega
end CBEGIN
