/-! STAGES: $group, the class: what stays; values -/
def G_T (so b po pf pt ou sc be fr ke gr va : Nat) (M : g_M) : Prop := S_T so b po pf pt ou sc be fr M ∧ (g_r M so 8 = some ke ∧ g_r M so 9 = some gr ∧ g_r M so 10 = some va) ∧ (g_A M ke 1 200 ∧ g_A M gr 1 200 ∧ g_A M va 1 200) ∧ (ke ≠ be ∧ ke ≠ fr ∧ gr ≠ be ∧ gr ≠ fr ∧ va ≠ be ∧ va ≠ fr ∧ ke ≠ gr ∧ ke ≠ va ∧ gr ≠ va)
def G_X (so b po pf pt ou sc fr ke gr va : Nat) (lo : Int) (M0 M : g_M) : Prop := M.1 = M0.1 ∧ (∀ y, y ≠ po → y ≠ pf → y ≠ pt → y ≠ sc → y ≠ b → ∀ k, g_r M y k = g_r M0 y k) ∧ (∀ y, y ≠ so → y ≠ b → y ≠ po → y ≠ pf → y ≠ pt → y ≠ ou → y ≠ sc → y ≠ fr → y ≠ ke → y ≠ gr → y ≠ va → ∀ k, g_i M y k = g_i M0 y k) ∧ (∀ k, k ≠ 15 → k ≠ 16 → k ≠ 18 → k ≠ 19 → g_i M so k = g_i M0 so k) ∧ (∀ k, k < 163608 → ¬ (lo ≤ k ∧ k < lo + 40400) → g_i M b k = g_i M0 b k) ∧ p_P M po pf pt ∧ g_r M sc 0 = some b
section GX
variable {so b po pf pt ou sc be fr ke gr va : Nat} {M0 M M1 : g_M} {lo : Int}
theorem G_X.rf (h : G_T so b po pf pt ou sc be fr ke gr va M) : G_X so b po pf pt ou sc fr ke gr va lo M M := ⟨rfl, fun _ _ _ _ _ _ _ => rfl, fun _ _ _ _ _ _ _ _ _ _ _ _ _ => rfl, fun _ _ _ _ _ => rfl, fun _ _ _ => rfl, h.1.2.2.1, h.1.2.2.2.2.2.2.1.2⟩
theorem G_X.tr (h : G_X so b po pf pt ou sc fr ke gr va lo M0 M) (h2 : G_X so b po pf pt ou sc fr ke gr va lo M M1) : G_X so b po pf pt ou sc fr ke gr va lo M0 M1 := by
  obtain ⟨a1, a2, a3, a4, a5, -, -⟩ := h
  obtain ⟨b1, b2, b3, b4, b5, b6, b7⟩ := h2
  exact ⟨b1.trans a1, fun y h1 h2 h3 h4 h5 k => (b2 y h1 h2 h3 h4 h5 k).trans (a2 y h1 h2 h3 h4 h5 k), fun y h1 h2 h3 h4 h5 h6 h7 h8 h9 h10 h11 k => (b3 y h1 h2 h3 h4 h5 h6 h7 h8 h9 h10 h11 k).trans (a3 y h1 h2 h3 h4 h5 h6 h7 h8 h9 h10 h11 k), fun k h1 h2 h3 h4 => (b4 k h1 h2 h3 h4).trans (a4 k h1 h2 h3 h4), fun k h1 h2 => (b5 k h1 h2).trans (a5 k h1 h2), b6, b7⟩
theorem S_X.g9 (h : S_X so b po pf pt ou sc fr M M1 lo) : G_X so b po pf pt ou sc fr ke gr va lo M M1 := by
  obtain ⟨a1, a2, a3, a4, a5, a6, a7⟩ := h
  exact ⟨a1, a2, fun y h1 h2 h3 h4 h5 h6 h7 h8 _ _ _ k => a3 y h1 h2 h3 h4 h5 h6 h7 h8 k, fun k h1 h2 h3 _ => a4 k h1 h2 h3, a5, a6, a7⟩
/-- the three rows are none of the other objects -/
theorem G_T.n (h : G_T so b po pf pt ou sc be fr ke gr va M) : ∀ x, (x = ke ∨ x = gr ∨ x = va) → x ≠ so ∧ x ≠ b ∧ x ≠ po ∧ x ≠ pf ∧ x ≠ pt ∧ x ≠ ou ∧ x ≠ sc ∧ x ≠ be ∧ x ≠ fr := by
  obtain ⟨⟨⟨s1, s2, s3⟩, -, ⟨P1, -, -, P4, P5, -⟩, -, ⟨q1, q2, -⟩, ⟨u1, -⟩, ⟨v1, -⟩, -⟩, -, ⟨k1, k2, k3⟩, ⟨n1, n2, n3, n4, n5, n6, -⟩⟩ := h
  have key : ∀ x, g_A M x 1 200 → x ≠ be → x ≠ fr → x ≠ so ∧ x ≠ b ∧ x ≠ po ∧ x ≠ pf ∧ x ≠ pt ∧ x ≠ ou ∧ x ≠ sc ∧ x ≠ be ∧ x ≠ fr := fun x hx h1 h2 => ⟨(g_neOA s1 hx).symm, g_neAA hx s3 (by omega), (g_neOA P1 hx).symm, g_neAA hx P4 (by omega), g_neAA hx P5 (by omega), (g_neOA u1 hx).symm, (g_neOA v1 hx).symm, h1, h2⟩
  rintro x (rfl | rfl | rfl)
  · exact key _ k1 n1 n2
  · exact key _ k2 n3 n4
  · exact key _ k3 n5 n6
theorem G_X.T (h : G_T so b po pf pt ou sc be fr ke gr va M0) (hx : G_X so b po pf pt ou sc fr ke gr va lo M0 M) : G_T so b po pf pt ou sc be fr ke gr va M := by
  obtain ⟨a1, a2, a3, a4, a5, a6, a7, a8⟩ := h.1.n1
  obtain ⟨b1, b2, b3, b4, b5, b6, b7⟩ := h.1.n2
  obtain ⟨⟨c1, c2, c3, c4⟩, ⟨d1, d2, d3, d4⟩, ⟨e1, e2, e3, e4⟩, ⟨f1, f2, f3⟩, ⟨g1, g2⟩, -⟩ := h.1.n3
  obtain ⟨⟨⟨s1, s2, s3⟩, w2, -, ⟨w4, w5, w6, w7⟩, ⟨q1, q2, q3⟩, ⟨o1, o2⟩, ⟨r1, r2⟩, hne⟩, ⟨t1, t2, t3⟩, ⟨k1, k2, k3⟩, hn⟩ := h
  obtain ⟨x1, x2, x3, x4, x5, x6, x7⟩ := hx
  have fT : g_fr (fun _ => True) M0 M := ⟨x1, fun y hy => absurd trivial hy⟩
  have hso := x2 so a2 a3 a4 a6 a1
  have hou := x2 ou c1.symm d1.symm e1.symm f1 b4.symm
  exact ⟨⟨⟨fT.O s1, by rw [hso]; exact s2, fT.A s3⟩, by rw [hso]; exact w2, x6, ⟨by rw [hso]; exact w4, by rw [hso]; exact w5, by rw [hso]; exact w6, by rw [hso]; exact w7⟩, ⟨fT.A q1, fT.A q2, q3⟩, ⟨fT.O o1, by rw [hou]; exact o2⟩, ⟨fT.O r1, x7⟩, hne⟩, ⟨by rw [hso]; exact t1, by rw [hso]; exact t2, by rw [hso]; exact t3⟩, ⟨fT.A k1, fT.A k2, fT.A k3⟩, hn⟩
theorem G_X.e {S : Nat → Int → Prop} (h : G_T so b po pf pt ou sc be fr ke gr va M) (f : e_fr S M M1) (hS : ∀ y k, S y k → (y = so ∧ (k = 15 ∨ k = 16 ∨ k = 18 ∨ k = 19)) ∨ y = ou ∨ y = sc ∨ y = fr ∨ y = ke ∨ y = gr ∨ y = va ∨ (y = b ∧ (163608 ≤ k ∨ (lo ≤ k ∧ k < lo + 40400)))) : G_X so b po pf pt ou sc fr ke gr va lo M M1 := by
  obtain ⟨a1, a2, a3, a4, a5, a6, a7, a8⟩ := h.1.n1
  obtain ⟨b1, b2, b3, b4, b5, b6, b7⟩ := h.1.n2
  have hn := h.n
  obtain ⟨k1, k2, -⟩ := hn ke (Or.inl rfl)
  obtain ⟨g1, g2, -⟩ := hn gr (Or.inr (Or.inl rfl))
  obtain ⟨v1, v2, -⟩ := hn va (Or.inr (Or.inr rfl))
  obtain ⟨P1, P2, P3, P4, P5, P6⟩ := h.1.2.2.1
  refine ⟨f.1, fun y _ _ _ _ _ k => f.2.2 y k, fun y h1 h2 h3 h4 h5 h6 h7 h8 h9 h10 h11 k => f.2.1 y k fun z => ?_, fun k q1 q2 q3 q4 => f.2.1 so k fun z => ?_, fun k q1 q2 => f.2.1 b k fun z => ?_, ⟨f.O P1, by rw [f.2.2]; exact P2, by rw [f.2.2]; exact P3, f.A P4, f.A P5, P6⟩, by rw [f.2.2]; exact h.1.2.2.2.2.2.2.1.2⟩
  · rcases hS y k z with ⟨z, -⟩ | z | z | z | z | z | z | ⟨z, -⟩
    · exact h1 z
    · exact h6 z
    · exact h7 z
    · exact h8 z
    · exact h9 z
    · exact h10 z
    · exact h11 z
    · exact h2 z
  · rcases hS so k z with ⟨-, z⟩ | z | z | z | z | z | z | ⟨z, -⟩
    · omega
    · exact a5 z
    · exact a6 z
    · exact a8 z
    · exact k1 z.symm
    · exact g1 z.symm
    · exact v1 z.symm
    · exact a1 z
  · rcases hS b k z with ⟨z, -⟩ | z | z | z | z | z | z | ⟨-, z⟩
    · exact a1 z.symm
    · exact b4 z
    · exact b5 z
    · exact b7 z
    · exact k2 z.symm
    · exact g2 z.symm
    · exact v2 z.symm
    · omega
/-- where a value stands while documents are made from lo on and yl bytes are on the scratch -/
def G_ko (B : Int → Int) (lo : Int) (yl : Nat) (p : Int) (w : b_E) : Prop := ∃ nm, b_st B 246408 p 30 w.1 nm w.2.2 ∧ (p + (b_el w.1 nm w.2.2).length ≤ lo ∨ (lo + 40400 ≤ p ∧ p + (b_el w.1 nm w.2.2).length ≤ 163608 + yl))
def G_at (B : Int → Int) (lo : Int) (yl : Nat) (p : Int) (o : Option b_E) : Prop := (o = none ∧ p = -1) ∨ ∃ w, o = some w ∧ G_ko B lo yl p w
theorem G_ko.kp {B B1 : Int → Int} {yl yl1 : Nat} {p : Int} {w : b_E} (h : G_ko B lo yl p w) (hy : yl ≤ yl1) (hB : ∀ k : Int, k < 163608 + yl → ¬ (lo ≤ k ∧ k < lo + 40400) → B1 k = B k) (hlo : lo + 40400 ≤ 163608) : G_ko B1 lo yl1 p w := by
  obtain ⟨nm, h1, h2⟩ := h
  exact ⟨nm, ⟨b_at_keep h1.1 fun k k1 k2 => hB k (by omega) (by omega), h1.2⟩, by omega⟩
theorem G_at.kp {B B1 : Int → Int} {yl yl1 : Nat} {p : Int} {o : Option b_E} (h : G_at B lo yl p o) (hy : yl ≤ yl1) (hB : ∀ k : Int, k < 163608 + yl → ¬ (lo ≤ k ∧ k < lo + 40400) → B1 k = B k) (hlo : lo + 40400 ≤ 163608) : G_at B1 lo yl1 p o := by
  rcases h with h | ⟨w, h1, h2⟩
  · exact Or.inl h
  · exact Or.inr ⟨w, h1, h2.kp hy hB hlo⟩
/-- a value of an expression -/
theorem c_valG {n dd De : Nat} {Q : Int → g_M → Prop} {pe dp J : Int} {e : b_E} {es : List b_E} {ds : List (List b_E)} {y u : List Int} (hdd : 22 ≤ dd) (hT : G_T so b po pf pt ou sc be fr ke gr va M) (hlo : 82808 ≤ lo) (hlo2 : lo ≤ 123208) (hu : c_Wr ou b 246408 lo (lo + 40400) u M) (hF : S_F so fr lo J ds M) (hy : c_Wr sc b 246408 163608 246408 y M) (he : b_st (g_i M b) 2100 pe De e.1 e.2.1 e.2.2) (hef : S_ef e = false) (hDe : De ≤ 30) (hd : b_st (g_i M b) 163608 dp 16 3 [] (b_doc es)) (hav : ∀ k, dp ≤ k → k < dp + (b_el 3 [] (b_doc es)).length → ¬ (lo ≤ k ∧ k < lo + 40400)) (hn : 16 ≤ n) (hl : (b_doc es).length ≤ 2000) (hg : X_gd 15 es) (hyl : y.length ≤ 80000) (hq : ∀ M1 v y2, S_X so b po pf pt ou sc fr M M1 lo → c_Wr ou b 246408 lo (lo + 40400) u M1 → S_F so fr lo J ds M1 → c_Wr sc b 246408 163608 246408 (y ++ y2) M1 → y2.length ≤ (b_doc es).length → (∀ k : Int, k < 163608 + y.length → g_i M1 b k = g_i M b k) → (∀ k, g_i M1 so k = g_i M so k) → G_at (g_i M1 b) lo (y ++ y2).length v (V_of n e es) → Q v M1) : g_Call dd 149 [.ref so, g_n pe, g_n dp] M (g_qI Q) := by
  have hser : (b_ser es).length + 5 ≤ 2000 := by rw [b_doc_len] at hl; exact hl
  have hdl := b_doc_len es
  have he4 := he.2.2.2.1
  have he5 := he.2.2.2.2
  have hd4 := hd.2.2.2.1
  have hd5 := hd.2.2.2.2
  have hdel := b_el_len 3 [] (b_doc es)
  rw [List.length_nil] at hdel
  have hav' : dp + (b_el 3 [] (b_doc es)).length ≤ lo ∨ lo + 40400 ≤ dp := by
    rcases Int.lt_or_le dp lo with g | g
    · rcases Int.lt_or_le lo (dp + (b_el 3 [] (b_doc es)).length) with g2 | g2
      · exact absurd ⟨Int.le_refl _, by omega⟩ (hav lo (by omega) g2)
      · exact Or.inl g2
    · rcases Int.lt_or_le dp (lo + 40400) with g2 | g2
      · exact absurd ⟨g, g2⟩ (hav dp (Int.le_refl _) (by omega))
      · exact Or.inr g2
  have heM : b_st (g_i M b) 246408 pe De e.1 e.2.1 e.2.2 := ⟨he.1, he.2.1, he.2.2.1, he4, by omega⟩
  by_cases hdol : S_dol e = true
  rotate_left
  · -- what stands in the request
    obtain ⟨d, rfl⟩ : ∃ d, dd = d + 1 := ⟨dd - 1, by omega⟩
    obtain ⟨d, rfl⟩ : ∃ d1, d = d1 + 2 := ⟨d - 2, by omega⟩
    refine m_X9_valueOf (heM.R (by decide)) (hd.R (by decide)) fun _ => ⟨hT.1.1.1, c_dolText (d := d) hT.1.1 heM ?_⟩
    rw [if_neg hdol]
    intro _ _ _
    refine ⟨fun _ => hq M pe [] (S_X.rf hT.1) hu hF (by rw [List.append_nil]; exact hy) (Nat.zero_le _) (fun _ _ => rfl) (fun _ => rfl) (Or.inr ⟨e, ?_, e.2.1, ⟨he.1, he.2.1, b_gv_le he.2.2.1 hDe, he4, by omega⟩, Or.inl (by omega)⟩), fun z => absurd rfl z⟩
    unfold V_of
    rw [if_neg hdol]
  · obtain ⟨hS, w2, hP, ⟨w4, w5, w6, w7⟩, -, -, -, -⟩ := id hT.1
    refine c_valueOf (F := g_i M b) (n := n) (D := 16) (De := De) (x := y) (by omega) ⟨hS, w2, hP, w5, hy, fun _ _ => rfl⟩ ⟨he.1, he.2.1, he.2.2.1, he4, by omega⟩ hef hd (by omega) (by decide) hDe (by omega) hg.ok fun M1 v y2 fv hW1 hret => ?_
    obtain ⟨hS1, h21, hP1, h51, hy1, hb1⟩ := hW1
    obtain ⟨i1, ⟨i2, r2⟩, i3⟩ : g_i M1 so = g_i M so ∧ (g_i M1 ou = g_i M ou ∧ g_r M1 ou = g_r M ou) ∧ g_i M1 fr = g_i M fr := by
      have hno : ∀ y, y ≠ po → y ≠ pf → y ≠ pt → y ≠ sc → y ≠ b → ¬ S_VF b po pf pt sc y := by
        intro y h1 h2 h3 h4 h5 z
        rcases z with (z | z | z) | z | z
        · exact h1 z
        · exact h2 z
        · exact h3 z
        · exact h4 z
        · exact h5 z
      obtain ⟨a1, a2, a3, a4, a5, a6, a7, a8⟩ := hT.1.n1
      obtain ⟨b1, b2, b3, b4, b5, b6, b7⟩ := hT.1.n2
      obtain ⟨⟨c1, c2, c3, c4⟩, ⟨d1, d2, d3, d4⟩, ⟨e1, e2, e3, e4⟩, ⟨f1, f2, f3⟩, ⟨g1, g2⟩, -⟩ := hT.1.n3
      exact ⟨(fv.2 so (hno so a2 a3 a4 a6 a1)).1, fv.2 ou (hno ou c1.symm d1.symm e1.symm f1 b4.symm), (fv.2 fr (hno fr c4.symm d4.symm e4.symm g2.symm b7.symm)).1⟩
    have hVg : ∀ w, V_of n e es = some w → b_gv 30 w.1 w.2.2 ∧ w.2.2.length + 2 ≤ (b_ser es).length := fun w hw => by
      rcases V_of_good (hg.le (by decide)) (by omega) hw with ⟨-, z⟩ | ⟨-, z1, z2⟩
      · rw [hdol] at z
        exact absurd z (by decide)
      · exact ⟨z1, z2⟩
    have hy2l : y2.length ≤ (b_doc es).length := by
      rcases hret with ⟨-, -, z⟩ | ⟨w, hw, ⟨z, -⟩ | ⟨-, z, -⟩⟩
      · rw [z]
        exact Nat.zero_le _
      · rw [z]
        exact Nat.zero_le _
      · have := (hVg w hw).2
        rw [z, b_el_len, List.length_nil]
        omega
    -- the scratch isn't full
    have hyat : b_at (g_i M b) 163608 y := by
      rcases hy.2.2.2.2 with ⟨-, -, -, z⟩ | ⟨-, -, -, z⟩
      · exact z
      · omega
    have hyat1 : b_at (g_i M1 b) 163608 (y ++ y2) := by
      rcases hy1.2.2.2.2 with ⟨-, -, -, z⟩ | ⟨-, -, -, z⟩
      · exact z
      · rw [List.length_append] at z
        omega
    have hbk : ∀ k : Int, k < 163608 + y.length → g_i M1 b k = g_i M b k := by
      intro k hk
      rcases Int.lt_or_le k 163608 with g | g
      · exact hb1 k g
      · obtain ⟨j, rfl⟩ : ∃ j : Nat, k = 163608 + j := ⟨(k - 163608).toNat, by omega⟩
        have hj : j < y.length := by omega
        rw [hyat j _ (List.getElem?_eq_getElem hj), (b_app.mp hyat1).1 j _ (List.getElem?_eq_getElem hj)]
    refine hq M1 v y2 ((S_X.rf hT.1).g hT.1 fv hP1 hy1.1.2.1 hb1) (hu.kp fv.1 (by rw [r2]) (fun k => by rw [i2]) fun k _ k2 => hb1 k (by omega)) (hF.fr (fun k _ => by rw [i1]) fun k => by rw [i3]) hy1 hy2l hbk (fun k => by rw [i1]) ?_
    rcases hret with ⟨z1, z2, -⟩ | ⟨w, hw, ⟨-, nm, z2, z3⟩ | ⟨z1, z2, z3⟩⟩
    · exact Or.inl ⟨z1, z2⟩
    · refine Or.inr ⟨w, hw, nm, ⟨b_at_keep z2.1 fun k k1 k2 => hb1 k (by have := z2.2.2.2.2; omega), z2.2.1, z2.2.2.1, z2.2.2.2.1, by have := z2.2.2.2.2; omega⟩, ?_⟩
      have z5 := z2.2.2.2.2
      rcases z3 with ⟨z6, z7, z8⟩ | ⟨z6, z7⟩
      · rw [z6, z7, z8]
        omega
      · omega
    · have z4 := z1 (by omega)
      refine Or.inr ⟨w, hw, [], ⟨?_, fun c hc => absurd hc (by simp), (hVg w hw).1, by omega, ?_⟩, ?_⟩
      · rw [z4, z3, ← z2]
        exact (b_app.mp hyat1).2
      · have := (hVg w hw).2
        rw [b_el_len, List.length_nil]
        omega
      · have hl2 := congrArg List.length z2
        rw [b_el_len, List.length_nil] at hl2
        rw [b_el_len, List.length_nil, List.length_append]
        omega
end GX
