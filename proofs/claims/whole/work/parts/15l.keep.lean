/-! STAGES: what stays while the class makes new documents -/
def S_T (so b po pf pt ou sc be fr : Nat) (M : g_M) : Prop := S_B so b M ∧ g_r M so 2 = some po ∧ p_P M po pf pt ∧ (g_r M so 4 = some ou ∧ g_r M so 5 = some sc ∧ g_r M so 6 = some be ∧ g_r M so 7 = some fr) ∧ (g_A M be 1 200 ∧ g_A M fr 1 200 ∧ be ≠ fr) ∧ (g_O M ou 4 ∧ g_r M ou 0 = some b) ∧ (g_O M sc 4 ∧ g_r M sc 0 = some b) ∧ ou ≠ sc
def S_X (so b po pf pt ou sc fr : Nat) (M0 M : g_M) (lo : Int) : Prop := M.1 = M0.1 ∧ (∀ y, y ≠ po → y ≠ pf → y ≠ pt → y ≠ sc → y ≠ b → ∀ k, g_r M y k = g_r M0 y k) ∧ (∀ y, y ≠ so → y ≠ b → y ≠ po → y ≠ pf → y ≠ pt → y ≠ ou → y ≠ sc → y ≠ fr → ∀ k, g_i M y k = g_i M0 y k) ∧ (∀ k, k ≠ 15 → k ≠ 16 → k ≠ 18 → g_i M so k = g_i M0 so k) ∧ (∀ k, k < 163608 → ¬ (lo ≤ k ∧ k < lo + 40400) → g_i M b k = g_i M0 b k) ∧ p_P M po pf pt ∧ g_r M sc 0 = some b
section SX
variable {so b po pf pt ou sc be fr : Nat} {M0 M M1 : g_M} {lo : Int} {x : List Int}
theorem S_T.n1 (h : S_T so b po pf pt ou sc be fr M) : so ≠ b ∧ so ≠ po ∧ so ≠ pf ∧ so ≠ pt ∧ so ≠ ou ∧ so ≠ sc ∧ so ≠ be ∧ so ≠ fr := by
  obtain ⟨⟨s1, s2, s3⟩, -, ⟨P1, P2, P3, P4, P5, P6⟩, -, ⟨b1, b2, b3⟩, ⟨o1, -⟩, ⟨c1, -⟩, -⟩ := h
  exact ⟨g_neOA s1 s3, g_neOO s1 P1 (by decide), g_neOA s1 P4, g_neOA s1 P5, g_neOO s1 o1 (by decide), g_neOO s1 c1 (by decide), g_neOA s1 b1, g_neOA s1 b2⟩
theorem S_T.n2 (h : S_T so b po pf pt ou sc be fr M) : b ≠ po ∧ b ≠ pf ∧ b ≠ pt ∧ b ≠ ou ∧ b ≠ sc ∧ b ≠ be ∧ b ≠ fr := by
  obtain ⟨⟨s1, s2, s3⟩, -, ⟨P1, P2, P3, P4, P5, P6⟩, -, ⟨b1, b2, b3⟩, ⟨o1, -⟩, ⟨c1, -⟩, -⟩ := h
  exact ⟨(g_neOA P1 s3).symm, g_neAA s3 P4 (by omega), g_neAA s3 P5 (by omega), (g_neOA o1 s3).symm, (g_neOA c1 s3).symm, g_neAA s3 b1 (by omega), g_neAA s3 b2 (by omega)⟩
theorem S_T.n3 (h : S_T so b po pf pt ou sc be fr M) : (po ≠ ou ∧ po ≠ sc ∧ po ≠ be ∧ po ≠ fr) ∧ (pf ≠ ou ∧ pf ≠ sc ∧ pf ≠ be ∧ pf ≠ fr) ∧ (pt ≠ ou ∧ pt ≠ sc ∧ pt ≠ be ∧ pt ≠ fr) ∧ (ou ≠ sc ∧ ou ≠ be ∧ ou ≠ fr) ∧ (sc ≠ be ∧ sc ≠ fr) ∧ be ≠ fr := by
  obtain ⟨⟨s1, s2, s3⟩, -, ⟨P1, P2, P3, P4, P5, P6⟩, -, ⟨b1, b2, b3⟩, ⟨o1, -⟩, ⟨c1, -⟩, hne⟩ := h
  exact ⟨⟨g_neOO P1 o1 (by decide), g_neOO P1 c1 (by decide), g_neOA P1 b1, g_neOA P1 b2⟩, ⟨(g_neOA o1 P4).symm, (g_neOA c1 P4).symm, g_neAA P4 b1 (by omega), g_neAA P4 b2 (by omega)⟩, ⟨(g_neOA o1 P5).symm, (g_neOA c1 P5).symm, g_neAA P5 b1 (by omega), g_neAA P5 b2 (by omega)⟩, ⟨hne, g_neOA o1 b1, g_neOA o1 b2⟩, ⟨g_neOA c1 b1, g_neOA c1 b2⟩, b3⟩
theorem S_X.rf (h : S_T so b po pf pt ou sc be fr M) : S_X so b po pf pt ou sc fr M M lo := ⟨rfl, fun _ _ _ _ _ _ _ => rfl, fun _ _ _ _ _ _ _ _ _ _ => rfl, fun _ _ _ _ => rfl, fun _ _ _ => rfl, h.2.2.1, h.2.2.2.2.2.2.1.2⟩
theorem S_X.T (h : S_T so b po pf pt ou sc be fr M0) (hx : S_X so b po pf pt ou sc fr M0 M lo) : S_T so b po pf pt ou sc be fr M := by
  obtain ⟨a1, a2, a3, a4, a5, a6, a7, a8⟩ := h.n1
  obtain ⟨b1, b2, b3, b4, b5, b6, b7⟩ := h.n2
  obtain ⟨⟨c1, c2, c3, c4⟩, ⟨d1, d2, d3, d4⟩, ⟨e1, e2, e3, e4⟩, ⟨f1, f2, f3⟩, ⟨g1, g2⟩, -⟩ := h.n3
  obtain ⟨⟨s1, s2, s3⟩, w2, -, ⟨w4, w5, w6, w7⟩, ⟨q1, q2, q3⟩, ⟨o1, o2⟩, ⟨r1, r2⟩, hne⟩ := h
  obtain ⟨x1, x2, x3, x4, x5, x6, x7⟩ := hx
  have fT : g_fr (fun _ => True) M0 M := ⟨x1, fun y hy => absurd trivial hy⟩
  have hso := x2 so a2 a3 a4 a6 a1
  have hou := x2 ou c1.symm d1.symm e1.symm f1 b4.symm
  exact ⟨⟨fT.O s1, by rw [hso]; exact s2, fT.A s3⟩, by rw [hso]; exact w2, x6, ⟨by rw [hso]; exact w4, by rw [hso]; exact w5, by rw [hso]; exact w6, by rw [hso]; exact w7⟩, ⟨fT.A q1, fT.A q2, q3⟩, ⟨fT.O o1, by rw [hou]; exact o2⟩, ⟨fT.O r1, x7⟩, hne⟩
theorem S_X.e {S : Nat → Int → Prop} (h : S_T so b po pf pt ou sc be fr M0) (hx : S_X so b po pf pt ou sc fr M0 M lo) (f : e_fr S M M1) (hS : ∀ y k, S y k → (y = so ∧ (k = 15 ∨ k = 16 ∨ k = 18)) ∨ y = ou ∨ y = sc ∨ y = fr ∨ (y = b ∧ (163608 ≤ k ∨ (lo ≤ k ∧ k < lo + 40400)))) : S_X so b po pf pt ou sc fr M0 M1 lo := by
  obtain ⟨a1, a2, a3, a4, a5, a6, a7, a8⟩ := h.n1
  obtain ⟨b1, b2, b3, b4, b5, b6, b7⟩ := h.n2
  obtain ⟨⟨c1, c2, c3, c4⟩, ⟨d1, d2, d3, d4⟩, ⟨e1, e2, e3, e4⟩, ⟨f1, f2, f3⟩, ⟨g1, g2⟩, -⟩ := h.n3
  obtain ⟨x1, x2, x3, x4, x5, x6, x7⟩ := hx
  refine ⟨f.1.trans x1, fun y h1 h2 h3 h4 h5 k => (f.2.2 y k).trans (x2 y h1 h2 h3 h4 h5 k), fun y h1 h2 h3 h4 h5 h6 h7 h8 k => ?_, fun k k1 k2 k3 => ?_, fun k k1 k2 => ?_, ?_, by rw [f.2.2]; exact x7⟩
  · rw [f.2.1 y k fun z => ?_]
    · exact x3 y h1 h2 h3 h4 h5 h6 h7 h8 k
    · rcases hS y k z with ⟨z, -⟩ | z | z | z | ⟨z, -⟩
      · exact h1 z
      · exact h6 z
      · exact h7 z
      · exact h8 z
      · exact h2 z
  · rw [f.2.1 so k fun z => ?_]
    · exact x4 k k1 k2 k3
    · rcases hS so k z with ⟨-, z⟩ | z | z | z | ⟨z, -⟩
      · omega
      · exact a5 z
      · exact a6 z
      · exact a8 z
      · exact a1 z
  · rw [f.2.1 b k fun z => ?_]
    · exact x5 k k1 k2
    · rcases hS b k z with ⟨z, -⟩ | z | z | z | ⟨-, z⟩
      · exact a1 z.symm
      · exact b4 z
      · exact b5 z
      · exact b7 z
      · omega
  · obtain ⟨P1, P2, P3, P4, P5, P6⟩ := x6
    exact ⟨f.O P1, by rw [f.2.2]; exact P2, by rw [f.2.2]; exact P3, f.A P4, f.A P5, P6⟩
theorem S_X.g (h : S_T so b po pf pt ou sc be fr M0) (hx : S_X so b po pf pt ou sc fr M0 M lo) (f : g_fr (S_VF b po pf pt sc) M M1) (hP : p_P M1 po pf pt) (hr : g_r M1 sc 0 = some b) (hb : ∀ k, k < 163608 → g_i M1 b k = g_i M b k) : S_X so b po pf pt ou sc fr M0 M1 lo := by
  obtain ⟨a1, a2, a3, a4, a5, a6, a7, a8⟩ := h.n1
  obtain ⟨x1, x2, x3, x4, x5, x6, x7⟩ := hx
  have hno : ∀ y, y ≠ po → y ≠ pf → y ≠ pt → y ≠ sc → y ≠ b → ¬ S_VF b po pf pt sc y := by
    intro y h1 h2 h3 h4 h5 z
    rcases z with (z | z | z) | z | z
    · exact h1 z
    · exact h2 z
    · exact h3 z
    · exact h4 z
    · exact h5 z
  refine ⟨f.1.trans x1, fun y h1 h2 h3 h4 h5 k => ?_, fun y h1 h2 h3 h4 h5 h6 h7 h8 k => ?_, fun k k1 k2 k3 => ?_, fun k k1 k2 => (hb k k1).trans (x5 k k1 k2), hP, hr⟩
  · rw [(f.2 y (hno y h1 h2 h3 h4 h5)).2]
    exact x2 y h1 h2 h3 h4 h5 k
  · rw [(f.2 y (hno y h3 h4 h5 h7 h2)).1]
    exact x3 y h1 h2 h3 h4 h5 h6 h7 h8 k
  · rw [(f.2 so (hno so a2 a3 a4 a6 a1)).1]
    exact x4 k k1 k2 k3
/-- a stage's documents: how far the class is with them -/
def S_D (so b ou fr : Nat) (lo J : Int) (ds : List (List b_E)) (u : List Int) (M : g_M) : Prop := c_Wr ou b 246408 lo (lo + 40400) u M ∧ S_F so fr lo J ds M ∧ (g_i M so 18 = 0 → u = S_wr ds)
/-- a value of an expression while documents are made -/
theorem c_valueX {n dd D De : Nat} {Q : Int → g_M → Prop} {pe dp J : Int} {e : b_E} {es : List b_E} {ds : List (List b_E)} {y u : List Int} (hdd : D + 6 ≤ dd) (hT : S_T so b po pf pt ou sc be fr M0) (hX : S_X so b po pf pt ou sc fr M0 M lo) (hlo : 0 ≤ lo) (hlo2 : lo + 40400 ≤ 163608) (hu : c_Wr ou b 246408 lo (lo + 40400) u M) (hF : S_F so fr lo J ds M) (hy : c_Wr sc b 246408 163608 246408 y M) (he : b_st (g_i M b) 100000 pe De e.1 e.2.1 e.2.2) (hef : S_ef e = false) (hd : b_st (g_i M b) 163608 dp D 3 [] (b_doc es)) (hDn : D ≤ n) (hD : D ≤ 30) (hDe : De ≤ 30) (hl : (b_doc es).length ≤ 15000) (hok : ∀ f ∈ es, b_okE f) (hq : ∀ M1 v y2, S_X so b po pf pt ou sc fr M0 M1 lo → c_Wr ou b 246408 lo (lo + 40400) u M1 → S_F so fr lo J ds M1 → g_i M1 so 18 = g_i M so 18 → c_Wr sc b 246408 163608 246408 (y ++ y2) M1 → (∀ k, k < 163608 → g_i M1 b k = g_i M b k) → S_ret (g_i M b) n e es pe dp y y2 v → Q v M1) : g_Call dd 149 [.ref so, g_n pe, g_n dp] M (g_qI Q) := by
  obtain ⟨a1, a2, a3, a4, a5, a6, a7, a8⟩ := hT.n1
  obtain ⟨b1, b2, b3, b4, b5, b6, b7⟩ := hT.n2
  obtain ⟨⟨c1, c2, c3, c4⟩, ⟨d1, d2, d3, d4⟩, ⟨e1, e2, e3, e4⟩, ⟨f1, f2, f3⟩, ⟨g1, g2⟩, -⟩ := hT.n3
  obtain ⟨hS, h2, hP, ⟨w4, w5, w6, w7⟩, -, -, -, -⟩ := hX.T hT
  have hW : S_W (g_i M b) so b po pf pt sc y M := ⟨hS, h2, hP, w5, hy, fun _ _ => rfl⟩
  refine c_valueOf hdd hW he hef hd hDn hD hDe hl hok fun M1 v y2 fv hW1 hret => ?_
  obtain ⟨hS1, h21, hP1, h51, hy1, hb1⟩ := hW1
  have hno : ∀ y, y ≠ po → y ≠ pf → y ≠ pt → y ≠ sc → y ≠ b → ¬ S_VF b po pf pt sc y := by
    intro y h1 h2 h3 h4 h5 z
    rcases z with (z | z | z) | z | z
    · exact h1 z
    · exact h2 z
    · exact h3 z
    · exact h4 z
    · exact h5 z
  obtain ⟨i1, r1⟩ := fv.2 so (hno so a2 a3 a4 a6 a1)
  obtain ⟨i2, r2⟩ := fv.2 ou (hno ou c1.symm d1.symm e1.symm f1 b4.symm)
  obtain ⟨i3, -⟩ := fv.2 fr (hno fr c4.symm d4.symm e4.symm g2.symm b7.symm)
  exact hq M1 v y2 (hX.g hT fv hP1 hy1.1.2.1 hb1) (hu.kp fv.1 (by rw [r2]) (fun k => by rw [i2]) fun k _ k2 => hb1 k (by omega)) (hF.fr (fun k _ => by rw [i1]) fun k => by rw [i3]) (by rw [i1]) hy1 hb1 hret
end SX
theorem V_of_good {n : Nat} {e : b_E} {es : List b_E} {y : b_E} (hes : X_gd 30 es) (hl : (b_ser es).length ≤ 15000) (h : V_of n e es = some y) : (y = e ∧ S_dol e = false) ∨ (S_dol e = true ∧ b_gv 30 y.1 y.2.2 ∧ y.2.2.length + 2 ≤ (b_ser es).length) := by
  unfold V_of at h
  by_cases hd : S_dol e = true
  · rw [if_pos hd] at h
    obtain ⟨z, hz, hzy⟩ := Option.map_eq_some_iff.mp h
    obtain ⟨a1, a2, a3, a4, -⟩ := V_res_good _ 30 es z hes hl hz
    obtain ⟨c1, c2, c3⟩ := V_at_good (n := n) a1 a2 a4 (by omega)
    rw [hzy] at c2 c3
    exact Or.inr ⟨hd, c2, by omega⟩
  · rw [if_neg hd] at h
    exact Or.inl ⟨(Option.some.inj h).symm, by simpa using hd⟩
