/-! STAGES: new documents; the class -/
def S_sum (ds : List (List b_E)) : Nat := (ds.map fun es => (b_doc es).length).sum
def S_wr (ds : List (List b_E)) : List Int := ds.flatMap fun es => b_el 3 [] (b_doc es)
/-- they are too much for a belt -/
def S_bad (ds : List (List b_E)) : Prop := 200 < ds.length ∨ 40000 < S_sum ds ∨ ∃ es ∈ ds, 2000 < (b_doc es).length ∨ 16 < b_dp 31 1 es
theorem S_sum_snoc (ds : List (List b_E)) (es : List b_E) : S_sum (ds ++ [es]) = S_sum ds + (b_doc es).length := by
  unfold S_sum
  simp
theorem S_wr_snoc (ds : List (List b_E)) (es : List b_E) : S_wr (ds ++ [es]) = S_wr ds ++ b_el 3 [] (b_doc es) := by
  unfold S_wr
  simp
theorem S_wr_len : ∀ ds : List (List b_E), (S_wr ds).length = S_sum ds + 2 * ds.length := by
  intro ds
  induction ds with
  | nil => rfl
  | cons es ds ih =>
    have h1 : S_wr (es :: ds) = b_el 3 [] (b_doc es) ++ S_wr ds := rfl
    have h2 : S_sum (es :: ds) = (b_doc es).length + S_sum ds := rfl
    rw [h1, h2, List.length_append, b_el_len, ih, List.length_cons, List.length_nil]
    omega
theorem S_bad_mono {ds : List (List b_E)} {es : List b_E} (h : S_bad ds) : S_bad (ds ++ [es]) := by
  rcases h with h | h | ⟨e, he, h⟩
  · exact Or.inl (by rw [List.length_append]; omega)
  · exact Or.inr (Or.inl (by rw [S_sum_snoc]; omega))
  · exact Or.inr (Or.inr ⟨e, List.mem_append_left _ he, h⟩)
theorem S_bad_app {ds : List (List b_E)} (h : S_bad ds) : ∀ r : List (List b_E), S_bad (ds ++ r) := by
  intro r
  induction r generalizing ds with
  | nil => rw [List.append_nil]; exact h
  | cons e r ih =>
    have := ih (S_bad_mono (es := e) h)
    rwa [List.append_assoc] at this
theorem S_bad_snoc {ds : List (List b_E)} {es : List b_E} (h : ¬ S_bad ds) : S_bad (ds ++ [es]) ↔ 200 ≤ ds.length ∨ 40000 < S_sum ds + (b_doc es).length ∨ 2000 < (b_doc es).length ∨ 16 < b_dp 31 1 es := by
  constructor
  · rintro (g | g | ⟨e, he, g⟩)
    · rw [List.length_append, List.length_singleton] at g
      exact Or.inl (by omega)
    · rw [S_sum_snoc] at g
      exact Or.inr (Or.inl g)
    · rcases List.mem_append.mp he with he | he
      · exact absurd (Or.inr (Or.inr ⟨e, he, g⟩)) h
      · rw [List.mem_singleton.mp he] at g
        exact Or.inr (Or.inr g)
  · rintro (g | g | g)
    · exact Or.inl (by rw [List.length_append, List.length_singleton]; omega)
    · exact Or.inr (Or.inl (by rw [S_sum_snoc]; exact g))
    · exact Or.inr (Or.inr ⟨es, by simp, g⟩)
theorem S_bad_len {ds : List (List b_E)} (h : 40400 < (S_wr ds).length) : S_bad ds := by
  rw [S_wr_len] at h
  by_cases g : 200 < ds.length
  · exact Or.inl g
  · exact Or.inr (Or.inl (by omega))
/-- how the class has them -/
def S_F (so fr : Nat) (lo J : Int) (ds : List (List b_E)) (M : g_M) : Prop := (g_i M so 18 = 0 ∧ ¬ S_bad ds ∧ g_i M so 15 = ds.length ∧ g_i M so 16 = S_sum ds ∧ ∀ i : Nat, i < ds.length → g_i M fr i = lo + (S_wr (ds.take i)).length) ∨ (g_i M so 18 = 1 ∧ S_bad ds ∧ 0 ≤ g_i M so 15 ∧ g_i M so 15 ≤ 200 ∧ -J ≤ g_i M so 16 ∧ g_i M so 16 ≤ J)
theorem S_F.up {so fr : Nat} {lo J J2 : Int} {ds : List (List b_E)} {M : g_M} (h : S_F so fr lo J ds M) (hJ : J ≤ J2) : S_F so fr lo J2 ds M := by
  rcases h with h | ⟨h1, h2, h3, h4, h5, h6⟩
  · exact Or.inl h
  · exact Or.inr ⟨h1, h2, h3, h4, by omega, by omega⟩
theorem S_F.fr {so fr : Nat} {lo J : Int} {ds : List (List b_E)} {M M1 : g_M} (h : S_F so fr lo J ds M) (h1 : ∀ k, (k = 15 ∨ k = 16 ∨ k = 18) → g_i M1 so k = g_i M so k) (h2 : ∀ k, g_i M1 fr k = g_i M fr k) : S_F so fr lo J ds M1 := by
  unfold S_F
  rw [h1 15 (by decide), h1 16 (by decide), h1 18 (by decide)]
  rcases h with ⟨a1, a2, a3, a4, a5⟩ | h
  · exact Or.inl ⟨a1, a2, a3, a4, fun i hi => by rw [h2]; exact a5 i hi⟩
  · exact Or.inr h
section SNEW
variable {so b ou sc fr be : Nat} {M M1 : g_M} {lo : Int} {ds : List (List b_E)} {es : List b_E}
theorem c_finish {d : Nat} {Q : g_M → Prop} {start J : Int} (hS : S_B so b M) (h4 : g_r M so 4 = some ou) (h7 : g_r M so 7 = some fr) (hfr : g_A M fr 1 200) (hlo : 0 ≤ lo) (hlo2 : lo ≤ 163608) {u : List Int} (hu : g_i M so 18 = 0 → u = S_wr ds) (hw : c_Wr ou b 246408 lo (lo + 40400) (u ++ b_el 3 [] (b_doc es)) M) (hst : lo ≤ start ∧ start ≤ lo + 40402 ∧ (start = lo + (u.length + 2) ∨ lo + 40400 < lo + (u.length + 2))) (hg : X_gd 30 es) (hF : S_F so fr lo J ds M) {J2 : Int} (hJ0 : 40000 ≤ J) (hJ1 : J ≤ 1000000000) (hJ2 : (start ≤ lo + 40400 ∧ J + 40400 ≤ J2) ∨ J + 40402 ≤ J2 ∨ (g_i M ou 3 = 0 ∧ J + (b_doc es).length ≤ J2)) (hq : ∀ M1, e_fr (fun y k => (y = so ∧ (k = 15 ∨ k = 16 ∨ k = 18)) ∨ y = fr) M M1 → S_F so fr lo J2 (ds ++ [es]) M1 → (g_i M1 so 18 = 0 → g_i M so 18 = 0) → Q M1) : g_Call (d + 68) 143 [.ref so, g_n start] M (g_qV Q) := by
  obtain ⟨s1, s2, s3⟩ := id hS
  obtain ⟨⟨o1, o2, o3, o4⟩, o5, o6, o7⟩ := id hw
  have n1 : so ≠ fr := g_neOA s1 hfr
  have n2 : so ≠ ou := g_neOO s1 o1 (by decide)
  have n3 : so ≠ b := g_neOA s1 s3
  have n4 : ou ≠ fr := g_neOA o1 hfr
  have n5 : fr ≠ b := g_neAA hfr s3 (by omega)
  have hR := o7.R
  obtain ⟨hst1, hst2, hst3⟩ := hst
  have hstR : g_InR start := ⟨by omega, by omega⟩
  have h16 : -J ≤ g_i M so 16 ∧ g_i M so 16 ≤ J := by
    rcases hF with ⟨-, hb, -, h, -⟩ | ⟨-, -, -, -, h⟩
    · have : ¬ 40000 < S_sum ds := fun z => hb (Or.inr (Or.inl z))
      omega
    · exact h
  have h15 : 0 ≤ g_i M so 15 ∧ g_i M so 15 ≤ 200 := by
    rcases hF with ⟨-, hb, h, -⟩ | ⟨-, -, h1, h2, -⟩
    · have : ¬ 200 < ds.length := fun z => hb (Or.inl z)
      omega
    · exact ⟨h1, h2⟩
  have hwl2 : (u ++ b_el 3 [] (b_doc es)).length = u.length + (0 + (b_doc es).length + 2) := by rw [List.length_append, b_el_len, List.length_nil]
  obtain ⟨L, hL⟩ : ∃ L, L = g_i M ou 1 - start := ⟨_, rfl⟩
  have hLJ : J + L ≤ J2 ∧ -J2 ≤ -J + L := by
    rcases hJ2 with h | h | ⟨h0, h⟩
    · omega
    · omega
    · rcases o7.2 with ⟨a1, a2, a3, a4⟩ | ⟨a1, -⟩
      · have hs0 : start = lo + (u.length + 2) := by
          rcases hst3 with h | h
          · omega
          · omega
        omega
      · omega
  have f7 : e_fr (fun y k => (y = so ∧ (k = 15 ∨ k = 16 ∨ k = 18)) ∨ y = fr) M (g_wi M so 16 (g_i M so 16 + L)) := e_fr.wi _ (Or.inl ⟨rfl, Or.inr (Or.inl rfl)⟩)
  have hset : S_bad (ds ++ [es]) → ∀ M9 : g_M, e_fr (fun y k => (y = so ∧ (k = 15 ∨ k = 16 ∨ k = 18)) ∨ y = fr) M M9 → 0 ≤ g_i M9 so 15 → g_i M9 so 15 ≤ 200 → g_i M9 so 16 = g_i M so 16 + L → Q (g_wi M9 so 18 1) := by
    intro hbad M9 f9 e1 e2 e3
    refine hq _ (f9.tr (e_fr.wi _ (Or.inl ⟨rfl, Or.inr (Or.inr rfl)⟩))) (Or.inr ⟨?_, hbad, ?_, ?_, ?_, ?_⟩) fun z => absurd z (by rw [g_i_wi, if_pos ⟨rfl, rfl⟩]; decide)
    · rw [g_i_wi, if_pos ⟨rfl, rfl⟩]
    · rw [g_i_wi, if_neg (by omega)]
      exact e1
    · rw [g_i_wi, if_neg (by omega)]
      exact e2
    · rw [g_i_wi, if_neg (by omega), e3]
      omega
    · rw [g_i_wi, if_neg (by omega), e3]
      omega
  have h7v : ∀ k, k ≠ 16 → g_i (g_wi M so 16 (g_i M so 16 + L)) so k = g_i M so k := fun k hk => by rw [g_i_wi, if_neg fun z => hk z.2]
  have h716 : g_i (g_wi M so 16 (g_i M so 16 + L)) so 16 = g_i M so 16 + L := by rw [g_i_wi, if_pos ⟨rfl, rfl⟩]
  have h7o : g_i (g_wi M so 16 (g_i M so 16 + L)) ou 3 = g_i M ou 3 := by rw [g_i_wi, if_neg fun z => n2 z.1.symm]
  have h7b : g_i (g_wi M so 16 (g_i M so 16 + L)) b = g_i M b := funext fun k => by rw [g_i_wi, if_neg fun z => n3 z.1.symm]
  have h7f : ∀ k, g_i (g_wi M so 16 (g_i M so 16 + L)) fr k = g_i M fr k := fun k => by rw [g_i_wi, if_neg fun z => n1 z.1.symm]
  refine m_X9_finishDocument hstR fun _ => ⟨s1, ou, h4, o1, by rw [← hL]; exact ⟨by omega, by omega⟩, by rw [← hL]; exact ⟨by omega, by omega⟩, ?_⟩
  rw [← hL]
  rintro M7 rfl _
  refine ⟨ou, h4, o1, ?_⟩
  rw [h7o, h716, h7v 15 (by decide)]
  have hset7 : S_bad (ds ++ [es]) → Q (g_wi (g_wi M so 16 (g_i M so 16 + L)) so 18 1) := fun hbad => hset hbad _ f7 (by rw [h7v 15 (by decide)]; exact h15.1) (by rw [h7v 15 (by decide)]; exact h15.2) h716
  rcases o7.2 with ⟨a1, a2, a3, a4⟩ | ⟨a1, a2, a3, a4⟩
  · have hs0 : start = lo + (u.length + 2) := by
      rcases hst3 with h | h
      · omega
      · omega
    have hLv : L = (b_doc es).length := by omega
    have hdat : b_at (g_i M b) (start - 2) (b_el 3 [] (b_doc es)) := by
      have := (b_app.mp a4).2
      rwa [show lo + (u.length : Int) = start - 2 by omega] at this
    refine ⟨fun _ => ⟨fun g => ?_, fun g => ⟨fun g2 => ?_, fun g2 => ⟨fr, h7, _, hfr, ⟨by decide, by decide⟩, fun g3 => ?_, fun g3 => ?_⟩⟩⟩, fun g => absurd a1 g⟩
    · rintro M18 rfl _
      exact hset7 (Or.inr (Or.inr ⟨es, by simp, Or.inl (by omega)⟩))
    · rintro M18 rfl _
      refine hset7 ?_
      rcases hF with ⟨-, hb, -, h, -⟩ | ⟨-, hb, -⟩
      · exact (S_bad_snoc hb).mpr (Or.inr (Or.inl (by omega)))
      · exact S_bad_mono hb
    · have hgv : b_gv 31 3 (b_doc es) := X_gv (Or.inl rfl) hg (by rw [b_doc_len] at hLv; omega) fun z => absurd z (by decide)
      have hbst : b_st (g_i (g_wi M so 16 (g_i M so 16 + L)) b) 246408 (start - 2) 31 3 [] (b_doc es) := ⟨by rw [h7b]; exact hdat, fun c hc => absurd hc (by simp), hgv, by omega, by rw [b_el_len, List.length_nil]; omega⟩
      have hbR := b_dp_R 31 1 es
      refine ⟨b, s2, ⟨by omega, by omega⟩, c_deepest (M := g_wi M so 16 (g_i M so 16 + L)) (f7.A s3) (by decide) 31 (e := (3, [], b_doc es)) (q := start - 2) (lv := 1) (dd := d + 67) (by omega) hbst (Or.inl rfl) (by show (b_doc es).length ≤ _; omega) (by decide) (by decide) ?_⟩
      intro _ _ _
      show (16 < b_dp 31 1 (b_ch (b_doc es)) → _) ∧ (¬ 16 < b_dp 31 1 (b_ch (b_doc es)) → _)
      rw [b_ch_doc hg.ok]
      refine ⟨fun g4 => ?_, fun g4 => ⟨fr, h7, ⟨by omega, by omega⟩, _, hfr, ⟨by rw [h7v 15 (by decide)]; omega, by rw [h7v 15 (by decide)]; omega⟩, ?_⟩⟩
      · rintro M58 rfl _
        exact hset7 (Or.inr (Or.inr ⟨es, by simp, Or.inr g4⟩))
      · rintro M49 rfl _
        rw [h7v 15 (by decide)]
        have e15 : g_i (g_wi (g_wi M so 16 (g_i M so 16 + L)) fr (g_i M so 15) (start - 2)) so 15 = g_i M so 15 := by rw [g_i_wi, if_neg fun z => n1 z.1, h7v 15 (by decide)]
        rw [e15]
        refine ⟨⟨by omega, by omega⟩, ?_⟩
        rintro M54 rfl _
        have f54 := (f7.tr (e_fr.wi (a := fr) (k := g_i M so 15) (start - 2) (Or.inr rfl))).tr (e_fr.wi (a := so) (k := 15) (g_i M so 15 + 1) (Or.inl ⟨rfl, Or.inl rfl⟩))
        have v15 : g_i (g_wi (g_wi (g_wi M so 16 (g_i M so 16 + L)) fr (g_i M so 15) (start - 2)) so 15 (g_i M so 15 + 1)) so 15 = g_i M so 15 + 1 := by rw [g_i_wi, if_pos ⟨rfl, rfl⟩]
        have v16 : g_i (g_wi (g_wi (g_wi M so 16 (g_i M so 16 + L)) fr (g_i M so 15) (start - 2)) so 15 (g_i M so 15 + 1)) so 16 = g_i M so 16 + L := by rw [g_i_wi, if_neg (by omega), g_i_wi, if_neg fun z => n1 z.1, h716]
        have v18 : g_i (g_wi (g_wi (g_wi M so 16 (g_i M so 16 + L)) fr (g_i M so 15) (start - 2)) so 15 (g_i M so 15 + 1)) so 18 = g_i M so 18 := by rw [g_i_wi, if_neg (by omega), g_i_wi, if_neg fun z => n1 z.1, h7v 18 (by decide)]
        have vfr : ∀ k, g_i (g_wi (g_wi (g_wi M so 16 (g_i M so 16 + L)) fr (g_i M so 15) (start - 2)) so 15 (g_i M so 15 + 1)) fr k = if k = g_i M so 15 then start - 2 else g_i M fr k := fun k => by
          rw [g_i_wi, if_neg fun z => n1 z.1.symm, g_i_wi]
          by_cases hk : k = g_i M so 15
          · rw [if_pos ⟨rfl, hk⟩, if_pos hk]
          · rw [if_neg fun z => hk z.2, if_neg hk, h7f]
        refine hq _ f54 ?_ fun z => by rwa [v18] at z
        rcases hF with ⟨c1, c2, c3, c4, c5⟩ | ⟨c1, c2, c3, c4, c5, c6⟩
        · refine Or.inl ⟨by rw [v18]; exact c1, fun z => ?_, by rw [v15, c3, List.length_append, List.length_singleton]; omega, by rw [v16, c4, S_sum_snoc, hLv]; omega, fun i hi => ?_⟩
          · rcases (S_bad_snoc c2).mp z with z | z | z | z
            · omega
            · omega
            · omega
            · exact g4 z
          · rw [List.length_append, List.length_singleton] at hi
            rw [vfr]
            have hul := congrArg List.length (hu c1)
            by_cases hil : i = ds.length
            · rw [if_pos (by omega), hil, List.take_left']
              · omega
              · rfl
            · rw [if_neg (by omega), c5 i (by omega), List.take_append_of_le_length (by omega)]
        · exact Or.inr ⟨by rw [v18]; exact c1, S_bad_mono c2, by rw [v15]; omega, by rw [v15]; omega, by rw [v16]; omega, by rw [v16]; omega⟩
    · rintro M31 rfl _
      refine hset7 ?_
      rcases hF with ⟨-, hb, h, -⟩ | ⟨-, hb, -⟩
      · exact (S_bad_snoc hb).mpr (Or.inl (by omega))
      · exact S_bad_mono hb
  · refine ⟨fun g => absurd g (by omega), fun _ => ?_⟩
    rintro M14 rfl _
    refine hset7 ?_
    rcases hF with ⟨c1, -⟩ | ⟨-, hb, -⟩
    · have hul := congrArg List.length (hu c1)
      refine S_bad_len ?_
      rw [S_wr_snoc, List.length_append, b_el_len, List.length_nil]
      omega
    · exact S_bad_mono hb
/-- what is written is too long -/
theorem c_finishBad {d : Nat} {Q : g_M → Prop} {start J : Int} {u z : List Int} (hS : S_B so b M) (h4 : g_r M so 4 = some ou) (hfr : g_A M fr 1 200) (hlo : 0 ≤ lo) (hlo2 : lo ≤ 163608) (hw : c_Wr ou b 246408 lo (lo + 40400) (u ++ z) M) (hst : w_r lo (lo + 40400) start (u.length + 2)) (hz : 2002 < z.length) (hes : 2000 < (b_doc es).length) (hF : S_F so fr lo J ds M) (hJ0 : 40000 ≤ J) (hJ1 : J ≤ 1000000000) (hq : ∀ M1, e_fr (fun y k => (y = so ∧ (k = 15 ∨ k = 16 ∨ k = 18)) ∨ y = fr) M M1 → S_F so fr lo (J + 40400) (ds ++ [es]) M1 → g_i M1 so 18 = 1 → Q M1) : g_Call (d + 68) 143 [.ref so, g_n start] M (g_qV Q) := by
  obtain ⟨s1, s2, s3⟩ := id hS
  obtain ⟨⟨o1, o2, o3, o4⟩, o5, o6, o7⟩ := id hw
  have n2 : so ≠ ou := g_neOO s1 o1 (by decide)
  have hR := o7.R
  obtain ⟨hst1, hst2, hst3⟩ := hst
  have hstR : g_InR start := ⟨by omega, by omega⟩
  have h16 : -J ≤ g_i M so 16 ∧ g_i M so 16 ≤ J := by
    rcases hF with ⟨-, hb, -, h, -⟩ | ⟨-, -, -, -, h⟩
    · have : ¬ 40000 < S_sum ds := fun z => hb (Or.inr (Or.inl z))
      omega
    · exact h
  have h15 : 0 ≤ g_i M so 15 ∧ g_i M so 15 ≤ 200 := by
    rcases hF with ⟨-, hb, h, -⟩ | ⟨-, -, h1, h2, -⟩
    · have : ¬ 200 < ds.length := fun z => hb (Or.inl z)
      omega
    · exact ⟨h1, h2⟩
  obtain ⟨L, hL⟩ : ∃ L, L = g_i M ou 1 - start := ⟨_, rfl⟩
  have f7 : e_fr (fun y k => (y = so ∧ (k = 15 ∨ k = 16 ∨ k = 18)) ∨ y = fr) M (g_wi M so 16 (g_i M so 16 + L)) := e_fr.wi _ (Or.inl ⟨rfl, Or.inr (Or.inl rfl)⟩)
  have h7v : ∀ k, k ≠ 16 → g_i (g_wi M so 16 (g_i M so 16 + L)) so k = g_i M so k := fun k hk => by rw [g_i_wi, if_neg fun z => hk z.2]
  have h7o : g_i (g_wi M so 16 (g_i M so 16 + L)) ou 3 = g_i M ou 3 := by rw [g_i_wi, if_neg fun z => n2 z.1.symm]
  have hset7 : Q (g_wi (g_wi M so 16 (g_i M so 16 + L)) so 18 1) := by
    refine hq _ (f7.tr (e_fr.wi _ (Or.inl ⟨rfl, Or.inr (Or.inr rfl)⟩))) (Or.inr ⟨?_, Or.inr (Or.inr ⟨es, by simp, Or.inl hes⟩), ?_, ?_, ?_, ?_⟩) ?_
    · rw [g_i_wi, if_pos ⟨rfl, rfl⟩]
    · rw [g_i_wi, if_neg (by omega), h7v 15 (by decide)]
      exact h15.1
    · rw [g_i_wi, if_neg (by omega), h7v 15 (by decide)]
      exact h15.2
    · rw [g_i_wi, if_neg (by omega), g_i_wi, if_pos ⟨rfl, rfl⟩]
      omega
    · rw [g_i_wi, if_neg (by omega), g_i_wi, if_pos ⟨rfl, rfl⟩]
      omega
    · rw [g_i_wi, if_pos ⟨rfl, rfl⟩]
  refine m_X9_finishDocument hstR fun _ => ⟨s1, ou, h4, o1, by rw [← hL]; exact ⟨by omega, by omega⟩, by rw [← hL]; exact ⟨by omega, by omega⟩, ?_⟩
  rw [← hL]
  rintro M7 rfl _
  refine ⟨ou, h4, o1, ?_⟩
  rw [h7o]
  refine ⟨fun g0 => ?_, fun _ => ?_⟩
  · rcases o7.2 with ⟨a1, a2, a3, a4⟩ | ⟨a1, a2, a3, a4⟩
    · rw [List.length_append] at a2 a3
      refine ⟨fun g => ?_, fun g => absurd (by omega) g⟩
      rintro M18 rfl _
      exact hset7
    · omega
  · rintro M14 rfl _
    exact hset7
theorem c_openDoc {d : Nat} {Q : Int → g_M → Prop} {x : List Int} (hS : S_B so b M) (h4 : g_r M so 4 = some ou) (hw : c_Wr ou b 246408 lo (lo + 40400) x M) (hq : ∀ r M1, e_fr (c_WL ou b lo (lo + 40400)) M M1 → c_Wr ou b 246408 lo (lo + 40400) (x ++ [3, 0] ++ [0, 0, 0, 0]) M1 → w_r lo (lo + 40400) r (x.length + 2) → Q r M1) : g_Call (d + 3) 141 [.ref so] M (g_qI Q) := by
  obtain ⟨s1, s2, s3⟩ := hS
  refine m_X9_openDocument fun _ => ⟨s1, ou, h4, hw.1.1, c_put (d := d + 1) hw ⟨by decide, by decide⟩ fun M1 f1 W1 => ?_⟩
  intro _ _
  refine ⟨ou, by rw [f1.2.2]; exact h4, W1.1.1, c_put (d := d + 1) W1 ⟨by decide, by decide⟩ fun M2 f2 W2 => ?_⟩
  intro _ _
  refine ⟨ou, by rw [f2.2.2, f1.2.2]; exact h4, W2.1.1, c_open (d := d) W2 fun r M3 f3 W3 hr => ?_⟩
  intro _ _ _
  have ew : x ++ [g_w8 3] ++ [g_w8 0] = x ++ [3, 0] := by simp [g_w8_of]
  rw [ew] at W3 hr
  rw [List.length_append] at hr
  exact hq r M3 ((f1.tr f2).tr f3) W3 hr
theorem c_Wr.kp {o buf : Nat} {n l2 lim : Int} {x : List Int} (h : c_Wr o buf n l2 lim x M) (hs : M1.1 = M.1) (hr : g_r M1 o 0 = g_r M o 0) (ho : ∀ k, g_i M1 o k = g_i M o k) (hb : ∀ k, l2 ≤ k → k < lim → g_i M1 buf k = g_i M buf k) : c_Wr o buf n l2 lim x M1 := by
  have fT : g_fr (fun _ => True) M M1 := ⟨hs, fun x hx => absurd trivial hx⟩
  obtain ⟨⟨v1, v2, v3, v4⟩, v5, v6, v7⟩ := h
  refine ⟨⟨fT.O v1, by rw [hr]; exact v2, fT.A v3, v4⟩, v5, v6, ?_⟩
  unfold w_W at v7 ⊢
  rw [ho, ho, ho]
  refine ⟨v7.1, ?_⟩
  rcases v7.2 with ⟨a1, a2, a3, a4⟩ | g
  · exact Or.inl ⟨a1, a2, a3, b_at_keep a4 fun k k1 k2 => hb k k1 (by omega)⟩
  · exact Or.inr g
def S_FL (so fr ou b : Nat) (lo : Int) (y : Nat) (k : Int) : Prop := (y = so ∧ (k = 15 ∨ k = 16 ∨ k = 18)) ∨ y = fr ∨ c_WL ou b lo (lo + 40400) y k
theorem c_closeDocG {d : Nat} {Q : g_M → Prop} {start J : Int} {u body : List Int} (hS : S_B so b M) (h4 : g_r M so 4 = some ou) (h7 : g_r M so 7 = some fr) (hfr : g_A M fr 1 200) (hlo : 0 ≤ lo) (hlo2 : lo ≤ 163608) (hu : g_i M so 18 = 0 → u = S_wr ds) (hw : c_Wr ou b 246408 lo (lo + 40400) (u ++ [3, 0] ++ ([0, 0, 0, 0] ++ body)) M) (hst : w_r lo (lo + 40400) start (u.length + 2)) (hb : body = b_ser es ∨ (2000 < body.length ∧ 2000 < (b_doc es).length)) (hg : X_gd 30 es) (hF : S_F so fr lo J ds M) (hJ0 : 40000 ≤ J) (hJ1 : J ≤ 1000000000) (hq : ∀ M1 u2, e_fr (S_FL so fr ou b lo) M M1 → c_Wr ou b 246408 lo (lo + 40400) u2 M1 → S_F so fr lo (J + 40400) (ds ++ [es]) M1 → (g_i M1 so 18 = 0 → u2 = S_wr (ds ++ [es])) → Q M1) : g_Call (d + 69) 142 [.ref so, g_n start] M (g_qV Q) := by
  obtain ⟨s1, s2, s3⟩ := id hS
  have o1 := hw.1.1
  have n1 : so ≠ fr := g_neOA s1 hfr
  have n2 : so ≠ ou := g_neOO s1 o1 (by decide)
  have n3 : so ≠ b := g_neOA s1 s3
  have n4 : ou ≠ fr := g_neOA o1 hfr
  have n5 : fr ≠ b := g_neAA hfr s3 (by omega)
  obtain ⟨hst1, hst2, hst3⟩ := id hst
  have hstR : g_InR start := ⟨by omega, by omega⟩
  have hl2 : (u ++ [3, 0]).length = u.length + 2 := by rw [List.length_append]; rfl
  refine m_X9_closeDocument hstR fun _ => ⟨s1, ou, h4, o1, c_close (d := d + 66) hw (by rw [hl2]; exact hst) fun M1 f1 W1 => ?_⟩
  intro _ _
  have hso : ∀ k, g_i M1 so k = g_i M so k := fun k => f1.2.1 so k fun z => by
    rcases z with ⟨z, -⟩ | ⟨z, -⟩
    · exact n2 z
    · exact n3 z
  have hff : ∀ k, g_i M1 fr k = g_i M fr k := fun k => f1.2.1 fr k fun z => by
    rcases z with ⟨z, -⟩ | ⟨z, -⟩
    · exact n4 z.symm
    · exact n5 z
  have hkp : ∀ {M2 : g_M} {u2 : List Int}, e_fr (fun y k => (y = so ∧ (k = 15 ∨ k = 16 ∨ k = 18)) ∨ y = fr) M1 M2 → c_Wr ou b 246408 lo (lo + 40400) u2 M1 → c_Wr ou b 246408 lo (lo + 40400) u2 M2 := fun f2 W => W.kp f2.1 (f2.2.2 _ _) (fun k => f2.2.1 ou k fun z => by
      rcases z with ⟨z, -⟩ | z
      · exact n2 z.symm
      · exact n4 z) fun k _ _ => f2.2.1 b k fun z => by
      rcases z with ⟨z, -⟩ | z
      · exact n3 z.symm
      · exact n5 z.symm
  have hS1 : S_B so b M1 := ⟨f1.O s1, by rw [f1.2.2]; exact s2, f1.A s3⟩
  have hup : ∀ {M2 : g_M}, e_fr (fun y k => (y = so ∧ (k = 15 ∨ k = 16 ∨ k = 18)) ∨ y = fr) M1 M2 → e_fr (S_FL so fr ou b lo) M M2 := fun f2 => (f1.up fun _ _ z => Or.inr (Or.inr z)).tr (f2.up fun _ _ z => by
    rcases z with z | z
    · exact Or.inl z
    · exact Or.inr (Or.inl z))
  rcases hb with hb | ⟨hb1, hb2⟩
  · have ew : u ++ [3, 0] ++ (b_le4 (body.length + 5) ++ (body ++ [0])) = u ++ b_el 3 [] (b_doc es) := by
      rw [hb, ← b_doc_app]
      unfold b_el
      simp
    rw [ew] at W1
    refine c_finish (d := d) hS1 (by rw [f1.2.2]; exact h4) (by rw [f1.2.2]; exact h7) (f1.A hfr) hlo hlo2 (fun z => hu (by rw [← hso]; exact z)) W1 ⟨hst.1, by have := hst.2.1; omega, hst.2.2⟩ hg (hF.fr (fun k _ => hso k) hff) hJ0 hJ1 (Or.inl ⟨hst.2.1, Int.le_refl _⟩) fun M2 f2 hF2 h18 => ?_
    intro _ _
    refine hq M2 _ (hup f2) (hkp f2 W1) hF2 fun z => ?_
    rw [S_wr_snoc, hu (by rw [← hso]; exact h18 z)]
  · have ew : u ++ [3, 0] ++ (b_le4 (body.length + 5) ++ (body ++ [0])) = u ++ ([3, 0] ++ (b_le4 (body.length + 5) ++ (body ++ [0]))) := by simp
    rw [ew] at W1
    refine c_finishBad (d := d) (z := [3, 0] ++ (b_le4 (body.length + 5) ++ (body ++ [0]))) hS1 (by rw [f1.2.2]; exact h4) (f1.A hfr) hlo hlo2 W1 hst ?_ hb2 (hF.fr (fun k _ => hso k) hff) hJ0 hJ1 fun M2 f2 hF2 h18 => ?_
    · have e4 : (b_le4 ((body.length : Int) + 5)).length = 4 := rfl
      rw [List.length_append, List.length_append, List.length_append, e4]
      show 2002 < 2 + (4 + (body.length + 1))
      omega
    · intro _ _
      exact hq M2 _ (hup f2) (hkp f2 W1) hF2 fun z => absurd (h18.symm.trans z) (by decide)
end SNEW
