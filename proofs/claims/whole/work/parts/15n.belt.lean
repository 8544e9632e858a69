/-! STAGES: belts; $project, the class -/
theorem b_dp_gd : ∀ (D : Nat) (k : Nat) (lv : Int) (es : List b_E), X_gd D es → b_dp (D + 1) lv es ≤ lv + k → X_gd k es := by
  intro D
  induction D with
  | zero =>
    intro k lv es hg _ e he
    exact ⟨(hg e he).1, b_gv_le (hg e he).2 (Nat.zero_le _)⟩
  | succ D ih =>
    intro k lv es hg h e he
    obtain ⟨h1, h2⟩ := hg e he
    refine ⟨h1, ?_⟩
    by_cases hk : e.1 = 3 ∨ e.1 = 4
    · have hfold : ∀ (fs : List b_E) (m : Int), e ∈ fs → b_dp (D + 1) (lv + 1) (b_ch e.2.2) ≤ fs.foldl (fun m e => if e.1 = 3 ∨ e.1 = 4 then max m (b_dp (D + 1) (lv + 1) (b_ch e.2.2)) else m) m := by
        intro fs
        have hmono : ∀ (fs : List b_E) (m : Int), m ≤ fs.foldl (fun m e => if e.1 = 3 ∨ e.1 = 4 then max m (b_dp (D + 1) (lv + 1) (b_ch e.2.2)) else m) m := by
          intro fs
          induction fs with
          | nil => exact fun m => Int.le_refl _
          | cons f fs ihf =>
            intro m
            rw [List.foldl_cons]
            have := ihf (if f.1 = 3 ∨ f.1 = 4 then max m (b_dp (D + 1) (lv + 1) (b_ch f.2.2)) else m)
            have h9 : m ≤ if f.1 = 3 ∨ f.1 = 4 then max m (b_dp (D + 1) (lv + 1) (b_ch f.2.2)) else m := by
              split
              · omega
              · exact Int.le_refl _
            omega
        induction fs with
        | nil => exact fun m h => absurd h (by simp)
        | cons f fs ihf =>
          intro m hm
          rw [List.foldl_cons]
          rcases List.mem_cons.mp hm with rfl | hm
          · rw [if_pos hk]
            have := hmono fs (max m (b_dp (D + 1) (lv + 1) (b_ch e.2.2)))
            omega
          · exact ihf _ hm
      have h3 : b_dp (D + 1) (lv + 1) (b_ch e.2.2) ≤ lv + k := Int.le_trans (hfold es lv he) h
      have h4 := (b_dp_R (D + 1) (lv + 1) (b_ch e.2.2)).1
      obtain ⟨k1, rfl⟩ : ∃ k1, k = k1 + 1 := ⟨k - 1, by omega⟩
      obtain ⟨D1, eD, hE⟩ := X_E.mk h1 h2 hk
      have eD : D1 = D := by omega
      subst eD
      have h5 := ih k1 (lv + 1) (b_ch e.2.2) hE.2.2.2.1 (by omega)
      obtain ⟨d1, es1, c1, c2, c3, c4, c5, c6, c7⟩ := b_gv_doc h2 hk
      rw [hE.2.2.1]
      rw [c7] at h5 ⊢
      exact X_gv hk h5 c3 c6
    · exact b_gv_le (D := 0) (b_gv_lf h2 (fun z => hk (Or.inl z)) fun z => hk (Or.inr z)) (Nat.zero_le _)
/-- a belt's documents are not too much -/
def S_ok (ds : List (List b_E)) : Prop := ds.length ≤ 200 ∧ S_sum ds ≤ 40000 ∧ ∀ es ∈ ds, (b_doc es).length ≤ 2000 ∧ X_gd 15 es
theorem S_ok_of {ds : List (List b_E)} (h : ¬ S_bad ds) (hg : ∀ es ∈ ds, X_gd 30 es) : S_ok ds := by
  refine ⟨?_, ?_, fun es he => ⟨?_, ?_⟩⟩
  · rcases Nat.lt_or_ge 200 ds.length with g | g
    · exact absurd (Or.inl g) h
    · exact g
  · rcases Nat.lt_or_ge 40000 (S_sum ds) with g | g
    · exact absurd (Or.inr (Or.inl g)) h
    · exact g
  · rcases Nat.lt_or_ge 2000 (b_doc es).length with g | g
    · exact absurd (Or.inr (Or.inr ⟨es, he, Or.inl g⟩)) h
    · exact g
  · refine b_dp_gd 30 15 1 es (hg es he) ?_
    by_cases g : 16 < b_dp 31 1 es
    · exact absurd (Or.inr (Or.inr ⟨es, he, Or.inr g⟩)) h
    · show b_dp 31 1 es ≤ 1 + ((15 : Nat) : Int)
      omega
/-- belt 0 in the class; g: the region where it stands, so that it stands not where the next one will -/
def S_lo (g : Int) : Int := 82808 + (1 - g) * 40400
theorem S_lo_R {g : Int} (h : g = 0 ∨ g = 1) : 82808 ≤ S_lo g ∧ S_lo g ≤ 123208 ∧ (S_lo (1 - g) = S_lo g + 40400 ∨ S_lo (1 - g) = S_lo g - 40400) := by
  rcases h with rfl | rfl
  · exact ⟨by decide, by decide, Or.inr (by decide)⟩
  · exact ⟨by decide, by decide, Or.inl (by decide)⟩
def S_belt (so b be : Nat) (g : Int) (ds : List (List b_E)) (M : g_M) : Prop := g_i M so 14 = ds.length ∧ S_ok ds ∧ ∀ (i : Nat) (es : List b_E), ds[i]? = some es → ∃ p, g_i M be i = p ∧ b_st (g_i M b) 163608 p 16 3 [] (b_doc es) ∧ ∀ k, p ≤ k → k < p + (b_el 3 [] (b_doc es)).length → 2008 ≤ k ∧ ¬ (S_lo g ≤ k ∧ k < S_lo g + 40400)
/-- what a stage may change -/
def S_Y (so b po pf pt ou sc be fr : Nat) (M M1 : g_M) : Prop := M1.1 = M.1 ∧ (∀ y, y ≠ po → y ≠ pf → y ≠ pt → y ≠ sc → y ≠ b → ∀ k, g_r M1 y k = g_r M y k) ∧ (∀ y, y ≠ so → y ≠ b → y ≠ po → y ≠ pf → y ≠ pt → y ≠ ou → y ≠ sc → y ≠ fr → y ≠ be → ∀ k, g_i M1 y k = g_i M y k) ∧ (∀ k, k < 14 ∨ 19 < k → g_i M1 so k = g_i M so k) ∧ (∀ k, k < 82808 → g_i M1 b k = g_i M b k) ∧ p_P M1 po pf pt ∧ g_r M1 sc 0 = some b
section SY
variable {so b po pf pt ou sc be fr : Nat} {M0 M M1 M2 : g_M} {lo g : Int} {ds : List (List b_E)}
theorem S_Y.tr (h : S_Y so b po pf pt ou sc be fr M M1) (h2 : S_Y so b po pf pt ou sc be fr M1 M2) : S_Y so b po pf pt ou sc be fr M M2 := by
  obtain ⟨a1, a2, a3, a4, a5, a6, a7⟩ := h
  obtain ⟨b1, b2, b3, b4, b5, b6, b7⟩ := h2
  exact ⟨b1.trans a1, fun y h1 h2 h3 h4 h5 k => (b2 y h1 h2 h3 h4 h5 k).trans (a2 y h1 h2 h3 h4 h5 k), fun y h1 h2 h3 h4 h5 h6 h7 h8 h9 k => (b3 y h1 h2 h3 h4 h5 h6 h7 h8 h9 k).trans (a3 y h1 h2 h3 h4 h5 h6 h7 h8 h9 k), fun k hk => (b4 k hk).trans (a4 k hk), fun k hk => (b5 k hk).trans (a5 k hk), b6, b7⟩
theorem S_Y.x (hx : S_X so b po pf pt ou sc fr M M1 lo) (hlo : 82808 ≤ lo) : S_Y so b po pf pt ou sc be fr M M1 := by
  obtain ⟨a1, a2, a3, a4, a5, a6, a7⟩ := hx
  exact ⟨a1, a2, fun y h1 h2 h3 h4 h5 h6 h7 h8 _ k => a3 y h1 h2 h3 h4 h5 h6 h7 h8 k, fun k hk => a4 k (by omega) (by omega) (by omega), fun k hk => a5 k (by omega) (by omega), a6, a7⟩
theorem S_Y.e {S : Nat → Int → Prop} (h : S_T so b po pf pt ou sc be fr M) (f : e_fr S M M1) (hS : ∀ y k, S y k → (y = so ∧ 14 ≤ k ∧ k ≤ 19) ∨ y = ou ∨ y = sc ∨ y = fr ∨ y = be ∨ (y = b ∧ 82808 ≤ k)) : S_Y so b po pf pt ou sc be fr M M1 := by
  obtain ⟨a1, a2, a3, a4, a5, a6, a7, a8⟩ := h.n1
  obtain ⟨b1, b2, b3, b4, b5, b6, b7⟩ := h.n2
  obtain ⟨P1, P2, P3, P4, P5, P6⟩ := h.2.2.1
  refine ⟨f.1, fun y _ _ _ _ _ k => f.2.2 y k, fun y h1 h2 h3 h4 h5 h6 h7 h8 h9 k => f.2.1 y k fun z => ?_, fun k hk => f.2.1 so k fun z => ?_, fun k hk => f.2.1 b k fun z => ?_, ⟨f.O P1, by rw [f.2.2]; exact P2, by rw [f.2.2]; exact P3, f.A P4, f.A P5, P6⟩, by rw [f.2.2]; exact h.2.2.2.2.2.2.1.2⟩
  · rcases hS y k z with ⟨z, -⟩ | z | z | z | z | ⟨z, -⟩
    · exact h1 z
    · exact h6 z
    · exact h7 z
    · exact h8 z
    · exact h9 z
    · exact h2 z
  · rcases hS so k z with ⟨-, z⟩ | z | z | z | z | ⟨z, -⟩
    · omega
    · exact a5 z
    · exact a6 z
    · exact a8 z
    · exact a7 z
    · exact a1 z
  · rcases hS b k z with ⟨z, -⟩ | z | z | z | z | ⟨-, z⟩
    · exact a1 z.symm
    · exact b4 z
    · exact b5 z
    · exact b7 z
    · exact b6 z
    · omega
theorem S_Y.path (h : S_T so b po pf pt ou sc be fr M) (f : g_fr (p_S po pf pt) M M1) (hP : p_P M1 po pf pt) : S_Y so b po pf pt ou sc be fr M M1 ∧ S_T so b po pf pt ou sc be fr M1 ∧ (∀ y, y ≠ po → y ≠ pf → y ≠ pt → g_i M1 y = g_i M y) := by
  obtain ⟨a1, a2, a3, a4, a5, a6, a7, a8⟩ := h.n1
  obtain ⟨b1, b2, b3, b4, b5, b6, b7⟩ := h.n2
  obtain ⟨⟨c1, c2, c3, c4⟩, ⟨d1, d2, d3, d4⟩, ⟨e1, e2, e3, e4⟩, ⟨f1, f2, f3⟩, ⟨g1, g2⟩, g3⟩ := h.n3
  have hno : ∀ y, y ≠ po → y ≠ pf → y ≠ pt → ¬ p_S po pf pt y := fun y h1 h2 h3 z => by
    rcases z with z | z | z
    · exact h1 z
    · exact h2 z
    · exact h3 z
  have hi : ∀ y, y ≠ po → y ≠ pf → y ≠ pt → g_i M1 y = g_i M y := fun y h1 h2 h3 => (f.2 y (hno y h1 h2 h3)).1
  have hr : ∀ y, y ≠ po → y ≠ pf → y ≠ pt → g_r M1 y = g_r M y := fun y h1 h2 h3 => (f.2 y (hno y h1 h2 h3)).2
  obtain ⟨⟨s1, s2, s3⟩, w2, -, ⟨w4, w5, w6, w7⟩, ⟨q1, q2, q3⟩, ⟨o1, o2⟩, ⟨r1, r2⟩, hne⟩ := h
  have eso := hr so a2 a3 a4
  have esc := hr sc c2.symm d2.symm e2.symm
  have eou := hr ou c1.symm d1.symm e1.symm
  refine ⟨⟨f.1, fun y h1 h2 h3 _ _ k => by rw [hr y h1 h2 h3], fun y _ _ h3 h4 h5 _ _ _ _ k => by rw [hi y h3 h4 h5], fun k _ => by rw [hi so a2 a3 a4], fun k _ => by rw [hi b b1 b2 b3], hP, by rw [esc]; exact r2⟩, ⟨⟨f.O s1, by rw [eso]; exact s2, f.A s3⟩, by rw [eso]; exact w2, hP, ⟨by rw [eso]; exact w4, by rw [eso]; exact w5, by rw [eso]; exact w6, by rw [eso]; exact w7⟩, ⟨f.A q1, f.A q2, q3⟩, ⟨f.O o1, by rw [eou]; exact o2⟩, ⟨f.O r1, by rw [esc]; exact r2⟩, hne⟩, hi⟩
theorem S_Y.T (h : S_T so b po pf pt ou sc be fr M) (hy : S_Y so b po pf pt ou sc be fr M M1) : S_T so b po pf pt ou sc be fr M1 := by
  obtain ⟨a1, a2, a3, a4, a5, a6, a7, a8⟩ := h.n1
  obtain ⟨b1, b2, b3, b4, b5, b6, b7⟩ := h.n2
  obtain ⟨⟨c1, c2, c3, c4⟩, ⟨d1, d2, d3, d4⟩, ⟨e1, e2, e3, e4⟩, ⟨f1, f2, f3⟩, ⟨g1, g2⟩, -⟩ := h.n3
  obtain ⟨⟨s1, s2, s3⟩, w2, -, ⟨w4, w5, w6, w7⟩, ⟨q1, q2, q3⟩, ⟨o1, o2⟩, ⟨r1, r2⟩, hne⟩ := h
  obtain ⟨x1, x2, x3, x4, x5, x6, x7⟩ := hy
  have fT : g_fr (fun _ => True) M M1 := ⟨x1, fun y hy => absurd trivial hy⟩
  have hso := x2 so a2 a3 a4 a6 a1
  have hou := x2 ou c1.symm d1.symm e1.symm f1 b4.symm
  exact ⟨⟨fT.O s1, by rw [hso]; exact s2, fT.A s3⟩, by rw [hso]; exact w2, x6, ⟨by rw [hso]; exact w4, by rw [hso]; exact w5, by rw [hso]; exact w6, by rw [hso]; exact w7⟩, ⟨fT.A q1, fT.A q2, q3⟩, ⟨fT.O o1, by rw [hou]; exact o2⟩, ⟨fT.O r1, x7⟩, hne⟩
theorem S_belt.keep (h : S_belt so b be g ds M) (h14 : g_i M1 so 14 = g_i M so 14) (hbe : ∀ k, g_i M1 be k = g_i M be k) (hb : ∀ k, k < 163608 → ¬ (S_lo g ≤ k ∧ k < S_lo g + 40400) → g_i M1 b k = g_i M b k) : S_belt so b be g ds M1 := by
  obtain ⟨h1, h2, h3⟩ := h
  refine ⟨by rw [h14]; exact h1, h2, fun i es hi => ?_⟩
  obtain ⟨p, p1, p2, p3⟩ := h3 i es hi
  exact ⟨p, by rw [hbe]; exact p1, ⟨b_at_keep p2.1 fun k k1 k2 => hb k (by have := p2.2.2.2.2; omega) (p3 k k1 k2).2, p2.2.1, p2.2.2.1, p2.2.2.2.1, p2.2.2.2.2⟩, p3⟩
/-- what comes of a stage that makes documents -/
def S_fin (so b po pf pt ou sc be fr : Nat) (M : g_M) (g : Int) (Q : Int → g_M → Prop) (ds : List (List b_E)) : Prop := (S_bad ds → ∀ M1, S_Y so b po pf pt ou sc be fr M M1 → Q 5 M1) ∧ (¬ S_bad ds → ∀ M1, S_Y so b po pf pt ou sc be fr M M1 → g_i M1 so 17 = 1 - g → S_belt so b be (1 - g) ds M1 → Q 0 M1)
theorem S_fin.tr {Q : Int → g_M → Prop} (h : S_fin so b po pf pt ou sc be fr M g Q ds) (hy : S_Y so b po pf pt ou sc be fr M M1) : S_fin so b po pf pt ou sc be fr M1 g Q ds := ⟨fun z M2 h2 => h.1 z M2 (hy.tr h2), fun z M2 h2 => h.2 z M2 (hy.tr h2)⟩
theorem c_beginM {d : Nat} {Q : g_M → Prop} (hT : S_T so b po pf pt ou sc be fr M) (hg : g_i M so 17 = g) (hg01 : g = 0 ∨ g = 1) (hbt : S_belt so b be g ds M) (hq : ∀ M1, S_Y so b po pf pt ou sc be fr M M1 → S_T so b po pf pt ou sc be fr M1 → g_i M1 so 17 = 1 - g → g_i M1 so 19 = 0 → S_belt so b be g ds M1 → S_D so b ou fr (S_lo g) 40000 [] [] M1 → c_Wr sc b 246408 163608 246408 [] M1 → g_i M1 b = g_i M b → e_fr (fun y _ => y = so ∨ y = ou ∨ y = sc) M M1 → Q M1) : g_Call (d + 2) 140 [.ref so] M (g_qV Q) := by
  obtain ⟨a1, a2, a3, a4, a5, a6, a7, a8⟩ := hT.n1
  obtain ⟨b1, b2, b3, b4, b5, b6, b7⟩ := hT.n2
  obtain ⟨⟨c1, c2, c3, c4⟩, ⟨d1, d2, d3, d4⟩, ⟨e1, e2, e3, e4⟩, ⟨f1, f2, f3⟩, ⟨g1, g2⟩, g3⟩ := hT.n3
  obtain ⟨hS, w2, hP, ⟨w4, w5, w6, w7⟩, ⟨q1, q2, q3⟩, ho, hs, hne⟩ := id hT
  refine c_beginFresh (d := d) (fr := fr) (g := g) hS w4 w5 hne ho hs q2 hg hg01 fun M1 fM W1 W2 h17 h19 hF => ?_
  have hY := S_Y.e hT fM fun y k z => by
    rcases z with ⟨z, z2, z3⟩ | ⟨z | z, -⟩
    · exact Or.inl ⟨z, by omega, z3⟩
    · exact Or.inr (Or.inl z)
    · exact Or.inr (Or.inr (Or.inl z))
  have hb : g_i M1 b = g_i M b := funext fun k => fM.2.1 b k fun z => by
    rcases z with ⟨z, -⟩ | ⟨z | z, -⟩
    · exact a1 z.symm
    · exact b4 z
    · exact b5 z
  refine hq M1 hY (hY.T hT) h17 h19 (hbt.keep (fM.2.1 so 14 fun z => ?_) (fun k => fM.2.1 be k fun z => ?_) fun k _ _ => by rw [hb]) ⟨W1, hF, fun _ => rfl⟩ W2 hb (fM.up fun y k z => by
    rcases z with ⟨z, -⟩ | ⟨z | z, -⟩
    · exact Or.inl z
    · exact Or.inr (Or.inl z)
    · exact Or.inr (Or.inr z))
  · rcases z with ⟨-, z, -⟩ | ⟨z | z, -⟩
    · omega
    · exact a5 z
    · exact a6 z
  · rcases z with ⟨z, -⟩ | ⟨z | z, -⟩
    · exact a7 z.symm
    · exact f2 z.symm
    · exact g1 z.symm
theorem c_endM {d : Nat} {Q : Int → g_M → Prop} {J : Int} {u : List Int} (hT : S_T so b po pf pt ou sc be fr M) (hg : g_i M so 17 = 1 - g) (hg01 : g = 0 ∨ g = 1) (hD : S_D so b ou fr (S_lo g) J ds u M) (hgd : ∀ es ∈ ds, X_gd 30 es) (hf : S_fin so b po pf pt ou sc be fr M g Q ds) : g_Call (d + 1) 144 [.ref so] M (g_qI Q) := by
  obtain ⟨a1, -, -, -, -, -, a7, -⟩ := hT.n1
  obtain ⟨-, -, -, -, -, b6, -⟩ := hT.n2
  obtain ⟨hS, w2, hP, ⟨w4, w5, w6, w7⟩, ⟨q1, q2, q3⟩, ho, hs, hne⟩ := id hT
  obtain ⟨hu, hF, h18⟩ := hD
  have hYrf : S_Y so b po pf pt ou sc be fr M M := S_Y.e hT (e_fr.rf (fun _ _ => False) M) fun _ _ z => z.elim
  have hF0 := hF
  refine c_endFresh (d := d) (be := be) hS w6 w7 q1 q2 q3 hF (fun hb => hf.1 hb M hYrf) fun hnb M1 fM h14 hpl => ?_
  have hok := S_ok_of hnb hgd
  have hY := S_Y.e hT fM fun y k z => by
    rcases z with ⟨z, z2⟩ | z
    · exact Or.inl ⟨z, by omega, by omega⟩
    · exact Or.inr (Or.inr (Or.inr (Or.inr (Or.inl z))))
  have hb : ∀ k, g_i M1 b k = g_i M b k := fun k => fM.2.1 b k fun z => by
    rcases z with ⟨z, -⟩ | z
    · exact a1 z.symm
    · exact b6 z
  refine hf.2 hnb M1 hY ?_ ⟨h14, hok, fun i es hi => ?_⟩
  · rw [fM.2.1 so 17 fun z => ?_]
    · exact hg
    · rcases z with ⟨-, z⟩ | z
      · omega
      · exact a7 z
  · have hil := (List.getElem?_eq_some_iff.mp hi).1
    have hsp : ds = ds.take i ++ es :: ds.drop (i + 1) := by
      obtain ⟨h1, h2⟩ := List.getElem?_eq_some_iff.mp hi
      rw [← h2]
      simp
    have h18' : g_i M so 18 = 0 := by
      rcases hF0 with ⟨h, -⟩ | ⟨-, h, -⟩
      · exact h
      · exact absurd h hnb
    have huw := h18 h18'
    have hwr : S_wr ds = S_wr (ds.take i) ++ (b_el 3 [] (b_doc es) ++ S_wr (ds.drop (i + 1))) := by
      conv => lhs; rw [hsp]
      unfold S_wr
      simp
    have hwl := congrArg List.length hwr
    rw [List.length_append, List.length_append] at hwl
    have hle : (S_wr ds).length ≤ 40400 := by
      rw [S_wr_len]
      have := hok.1
      have := hok.2.1
      omega
    obtain ⟨hlo, hlo', hlo2⟩ := S_lo_R hg01
    clear hT hg a1 a7 b6 hY hf hF hF0 h18' h14
    refine ⟨_, hpl i hil, ?_, fun k k1 k2 => ?_⟩
    · have hat : b_at (g_i M b) (S_lo g + (S_wr (ds.take i)).length) (b_el 3 [] (b_doc es)) := by
        rcases hu.2.2.2.2 with ⟨-, -, -, v4⟩ | ⟨-, -, -, v4⟩
        · rw [huw, hwr] at v4
          exact (b_app.mp (b_app.mp v4).2).1
        · rw [huw] at v4
          omega
      have hes := hok.2.2 es (by rw [hsp]; simp)
      refine ⟨b_at_keep hat fun k _ _ => hb k, fun c hc => absurd hc (by simp), X_gv (Or.inl rfl) hes.2 (by have := hes.1; rw [b_doc_len] at this; omega) fun z => absurd z (by decide), by omega, ?_⟩
      omega
    · rcases hlo2 with h | h
      · rw [h]
        omega
      · rw [h]
        omega
theorem c_project {d n De : Nat} {Q : Int → g_M → Prop} {pe : Int} {e : b_E} (hT : S_T so b po pf pt ou sc be fr M) (hg : g_i M so 17 = g) (hg01 : g = 0 ∨ g = 1) (hbt : S_belt so b be g ds M) (he : b_st (g_i M b) 2100 pe De e.1 e.2.1 e.2.2) (hDe : De ≤ 30) (hn : 16 ≤ n) (hq : S_pf e ≠ 0 → ∀ M1, S_Y so b po pf pt ou sc be fr M M1 → Q (S_pf e) M1) (hf : S_pf e = 0 → S_fin so b po pf pt ou sc be fr M g Q (ds.map (S_pj n (b_ch e.2.2)))) : g_Call (d + 77) 152 [.ref so, g_n pe] M (g_qI Q) := by
  obtain ⟨hS, w2, hP, -⟩ := id hT
  have hpeR := he.R (by decide)
  have he4 := he.2.2.2.1
  have he5 := he.2.2.2.2
  have hel := b_el_len e.1 e.2.1 e.2.2
  refine m_X9_project hpeR fun _ => ⟨hS.1, c_wrongProject (d := d + 71) hS w2 hP (De := De) ⟨he.1, he.2.1, he.2.2.1, he.2.2.2.1, by omega⟩ (by omega) fun M1 f1 P1 => ?_⟩
  intro _ _ _
  obtain ⟨hY1, hT1, hi1⟩ := S_Y.path hT f1 P1
  have eso := hi1 so hT.n1.2.1 hT.n1.2.2.1 hT.n1.2.2.2.1
  have eb := hi1 b hT.n2.1 hT.n2.2.1 hT.n2.2.2.1
  have ebe := hi1 be hT.n3.1.2.2.1.symm hT.n3.2.1.2.2.1.symm hT.n3.2.2.1.2.2.1.symm
  refine ⟨fun h0 => ?_, fun h0 => hq h0 M1 hY1⟩
  have hk : e.1 = 3 := Classical.byContradiction fun z => by
    unfold S_pf at h0
    rw [if_neg z] at h0
    exact absurd h0 (by decide)
  have hpf : S_pfL (b_ch e.2.2) = 0 := by
    unfold S_pf at h0
    rw [if_pos hk] at h0
    split at h0
    · exact absurd h0 (by decide)
    · exact h0
  have hf0 := hf h0
  rw [h0]
  have hbt1 : S_belt so b be g ds M1 := hbt.keep (by rw [eso]) (fun k => by rw [ebe]) fun k _ _ => by rw [eb]
  refine c_beginM (d := d + 74) (g := g) hT1 (by rw [eso]; exact hg) hg01 hbt1 fun M2 hY2 hT2 h17 _ hbt2 hD2 _ hb2 _ => ?_
  intro _ _
  obtain ⟨h14, hok, hpl⟩ := id hbt2
  have hlo : 82808 ≤ S_lo g ∧ S_lo g ≤ 123208 := ⟨(S_lo_R hg01).1, (S_lo_R hg01).2.1⟩
  have heM2 : b_st (g_i M2 b) 2100 pe De e.1 e.2.1 e.2.2 := by rw [hb2, eb]; exact he
  have hlp : ∀ (r i : Nat) (M3 : g_M) (u : List Int), i + r = ds.length → S_X so b po pf pt ou sc fr M2 M3 (S_lo g) → S_D so b ou fr (S_lo g) (40000 + 40400 * i) ((ds.take i).map (S_pj n (b_ch e.2.2))) u M3 → g_Run (d + 76) 152 18 [(0, .ref so), (1, g_n pe), (2, g_n 0), (3, g_n i)] [] M3 (g_qI Q) := by
    intro r
    induction r with
    | zero =>
      intro i M3 u hi hX3 hD3
      have hT3 := hX3.T hT2
      have h143 : g_i M3 so 14 = ds.length := by rw [hX3.2.2.2.1 14 (by decide) (by decide) (by decide)]; exact h14
      have hl200 := hok.1
      rw [List.take_of_length_le (by omega)] at hD3
      refine s_X9_project_18 hpeR ⟨by decide, by decide⟩ ⟨by omega, by omega⟩ fun _ => ⟨hT3.1.1, fun z => absurd z (by omega), fun _ => c_endM (d := d + 75) (g := g) hT3 (by rw [hX3.2.2.2.1 17 (by decide) (by decide) (by decide)]; exact h17) hg01 hD3 ?_ ?_⟩
      · intro es2 hes2
        obtain ⟨es, hes, rfl⟩ := List.mem_map.mp hes2
        have := hok.2.2 es hes
        refine S_pj_good (this.2.le (by decide)) (by have h9 := this.1; rw [b_doc_len] at h9; omega) ?_
        obtain ⟨D1, eD, hkids, -⟩ := he.kids (Or.inl hk)
        exact fun x hx => ⟨(hkids.2.1 x hx).1, b_gv_le (hkids.2.1 x hx).2 (by omega)⟩
      · have hf3 := ((hf0.tr hY1).tr hY2).tr (S_Y.x (be := be) hX3 hlo.1)
        exact ⟨fun z M4 h4 => fun _ _ _ => hf3.1 z M4 h4, fun z M4 h4 k1 k2 => fun _ _ _ => hf3.2 z M4 h4 k1 k2⟩
    | succ r ih =>
      intro i M3 u hi hX3 hD3
      obtain ⟨es, hes⟩ : ∃ es, ds[i]? = some es := ⟨_, List.getElem?_eq_getElem (by omega)⟩
      obtain ⟨p, p1, p2, p3⟩ := hpl i es hes
      have hmem : es ∈ ds := List.mem_of_getElem? hes
      obtain ⟨m1, m2⟩ := hok.2.2 es hmem
      have hl200 := hok.1
      refine c_projDoc (d := d) (n := n) (J := 40000 + 40400 * i) (u0 := u) (y0 := []) hT2 (by omega) (by omega) p1 (by omega) heM2 hk hpf hDe p2 (fun k k1 k2 => (p3 k k1 k2).2) hn m1 (m2.le (by decide)) hX3 hD3 (by omega) (by omega) (fun M4 u4 hX4 hD4 => ?_) (by omega)
      have htk : ds.take (i + 1) = ds.take i ++ [es] := by rw [List.take_add_one, hes]; rfl
      have h9 := ih (i + 1) M4 u4 (by omega) hX4 (by
        rw [htk, List.map_append]
        have : (40000 + 40400 * ((i + 1 : Nat) : Int)) = 40000 + 40400 * (i : Int) + 40400 := by omega
        rw [this]
        exact hD4)
      rwa [show ((i + 1 : Nat) : Int) = (i : Int) + 1 by omega] at h9
  exact hlp ds.length 0 M2 [] (by omega) (S_X.rf hT2) hD2
end SY
