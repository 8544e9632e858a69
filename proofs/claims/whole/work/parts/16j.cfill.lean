/-! STAGES: $sort, the class: the keys of all documents -/
theorem p_W.kS {S : Nat → Prop} {M M1 : g_M} {r b o f t a : Nat} {c e n2 : Int} {L : List Int} {s : Nat} {st : List (List Int)} (h : p_W M o f t a n2 s st) (hP : k_P M r b c e L) (k : k_F S r M M1) (h1 : ¬ S o) (h2 : ¬ S f) (h3 : ¬ S t) (h4 : ¬ S a) : p_W M1 o f t a n2 s st := by
  obtain ⟨⟨o1, o2, o3, o4, o5, o6⟩, w2, w3, w4, w5, w6⟩ := h
  obtain ⟨i1, r1⟩ := k.O hP o1 (by decide) h1
  obtain ⟨i2, -⟩ := k.A hP o4 (by unfold k_n; omega) h2
  obtain ⟨i3, -⟩ := k.A hP o5 (by unfold k_n; omega) h3
  obtain ⟨i4, -⟩ := k.A hP w3 (fun g => absurd g (by decide)) h4
  refine ⟨⟨o1.up k.1, by rw [r1]; exact o2, by rw [r1]; exact o3, o4.up k.1, o5.up k.1, o6⟩, by rw [r1]; exact w2, w3.up k.1, w4, by rw [i1]; exact w5, ?_⟩
  rw [i2, i3, i4]
  exact w6
section CFILL
variable {so r b po pf pt kk wa be : Nat} {c e : Int} {L : List Int} {M0 : g_M} {cs : List b_E} {ds : List (List b_E)} {g : Int}
def O_fS (po pf pt kk : Nat) (M0 : g_M) (y : Nat) : Prop := p_S po pf pt y ∨ ∃ s : Nat, s < 4 ∧ g_r M0 kk s = some y
theorem c_fillKeys {d D1 : Nat} {Q : Int → g_M → Prop} {pe w2 q0 : Int} (hS : S_B so b M0) (h0 : g_r M0 so 0 = some r) (h2 : g_r M0 so 2 = some po) (h6 : g_r M0 so 6 = some be) (h11 : g_r M0 so 11 = some kk) (h12 : g_r M0 so 12 = some wa) (hP0 : k_P M0 r b c e L) (hp0 : p_P M0 po pf pt) (hbe : g_A M0 be 1 200) (hkk : g_A M0 kk 5 4) (hwa : g_A M0 wa 1 4) (hrows : ∀ s : Nat, s < 4 → ∃ row, g_r M0 kk s = some row ∧ g_A M0 row 1 200 ∧ row ≠ be) (hinj : ∀ (s s2 row : Nat), s < 4 → s2 < 4 → g_r M0 kk s = some row → g_r M0 kk s2 = some row → s = s2) (hL : L.length ≤ 100) (hbt : S_belt so b be g ds M0) (hxs : b_sts (g_i M0 b) 2100 q0 D1 cs) (hc4 : cs.length ≤ 4) (hways : ∀ (i : Nat) (x : b_E), cs[i]? = some x → g_i M0 wa i = O_w x ∧ (O_w x = 1 ∨ O_w x = -1) ∧ p_plain x.2.1) (hpeR : g_InR pe) (hwR : g_InR w2) (hq : ∀ M1 v4, k_F (O_fS po pf pt kk M0) r M0 M1 → k_P M1 r b c e L → p_P M1 po pf pt → g_InR v4 → (∀ (s : Nat) (x : b_E), cs[s]? = some x → ∃ row, g_r M0 kk s = some row ∧ O_row b row x ds ds.length M1) → g_Run (d + 61) 163 128 [(0, .ref so), (1, g_n pe), (2, g_n w2), (3, g_n cs.length), (4, g_n v4), (5, g_n 0)] [] M1 (g_qI Q)) : g_Run (d + 61) 163 27 [(0, .ref so), (1, g_n pe), (2, g_n w2), (3, g_n 0), (4, g_n q0), (5, g_n 0)] [] M0 (g_qI Q) := by
  obtain ⟨s1, s2, s3⟩ := id hS
  obtain ⟨P1, P2, P3, P4, P5, P6⟩ := id hp0
  obtain ⟨h14, hok, hpl⟩ := id hbt
  have hl200 := hok.1
  have nso : ¬ O_fS po pf pt kk M0 so := by
    rintro ((z | z | z) | ⟨s, hs, z⟩)
    · exact g_neOO s1 P1 (by decide) z
    · exact g_neOA s1 P4 z
    · exact g_neOA s1 P5 z
    · obtain ⟨row, hr1, hr2, -⟩ := hrows s hs
      rw [hr1] at z
      cases z
      exact g_neOA s1 hr2 rfl
  have nr : ¬ O_fS po pf pt kk M0 r := by
    rintro ((z | z | z) | ⟨s, hs, z⟩)
    · exact g_neOO hP0.1 P1 (by decide) z
    · exact g_neOA hP0.1 P4 z
    · exact g_neOA hP0.1 P5 z
    · obtain ⟨row, hr1, hr2, -⟩ := hrows s hs
      rw [hr1] at z
      cases z
      exact g_neOA hP0.1 hr2 rfl
  have nA : ∀ {x t : Nat} {n : Int}, g_A M0 x t n → ¬ (t = 1 ∧ (n = 8 ∨ n = 200)) → ¬ O_fS po pf pt kk M0 x := by
    intro x t n hx hn
    rintro ((z | z | z) | ⟨s, hs, z⟩)
    · exact g_neOA P1 hx z.symm
    · exact g_neAA P4 hx (by omega) z.symm
    · exact g_neAA P5 hx (by omega) z.symm
    · obtain ⟨row, hr1, hr2, -⟩ := hrows s hs
      rw [hr1] at z
      cases z
      exact g_neAA hr2 hx (by omega) rfl
  have nb := nA s3 (by omega)
  have nkk := nA hkk (by omega)
  have nwa := nA hwa (by omega)
  have nbe : ¬ O_fS po pf pt kk M0 be := by
    rintro ((z | z | z) | ⟨s, hs, z⟩)
    · exact g_neOA P1 hbe z.symm
    · exact g_neAA P4 hbe (by omega) z.symm
    · exact g_neAA P5 hbe (by omega) z.symm
    · obtain ⟨row, hr1, hr2, hr3⟩ := hrows s hs
      rw [hr1] at z
      cases z
      exact hr3 rfl
  have eso : ∀ {M : g_M}, k_F (O_fS po pf pt kk M0) r M0 M → g_i M so = g_i M0 so ∧ g_r M so = g_r M0 so := fun f => f.O hP0 s1 (by decide) nso
  have eb : ∀ {M : g_M}, k_F (O_fS po pf pt kk M0) r M0 M → g_i M b = g_i M0 b := fun f => (f.A hP0 s3 (fun z => absurd z (by decide)) nb).1
  have ekk : ∀ {M : g_M}, k_F (O_fS po pf pt kk M0) r M0 M → g_r M kk = g_r M0 kk := fun f => (f.A hP0 hkk (fun z => absurd z (by decide)) nkk).2
  have ewa : ∀ {M : g_M}, k_F (O_fS po pf pt kk M0) r M0 M → g_i M wa = g_i M0 wa := fun f => (f.A hP0 hwa (fun _ z => by unfold k_n at z; omega) nwa).1
  have ebe : ∀ {M : g_M}, k_F (O_fS po pf pt kk M0) r M0 M → g_i M be = g_i M0 be := fun f => (f.A hP0 hbe (fun _ z => by unfold k_n at z; omega) nbe).1
  have hpob : po ≠ b := g_neOA P1 s3
  have hpfb : pf ≠ b := g_neAA P4 s3 (by omega)
  have hptb : pt ≠ b := g_neAA P5 s3 (by omega)
  have hrowP : ∀ (s row : Nat), s < 4 → g_r M0 kk s = some row → row ≠ po ∧ row ≠ pf ∧ row ≠ pt ∧ row ≠ b := fun s row hs hr => by
    obtain ⟨row2, hr1, hr2, -⟩ := hrows s hs
    rw [hr] at hr1
    cases hr1
    exact ⟨(g_neOA P1 hr2).symm, g_neAA hr2 P4 (by omega), g_neAA hr2 P5 (by omega), g_neAA hr2 s3 (by omega)⟩
  -- rows keep
  have hkeep : ∀ {M M1 : g_M} {S : Nat → Prop} {s row n : Nat} {x : b_E}, k_P M r b c e L → k_F S r M M1 → ¬ S row → ¬ S b → g_A M b 0 246408 → O_row b row x ds n M → O_row b row x ds n M1 := by
    intro M M1 S s row n x hP f k1 k2 hA ⟨w4, w5⟩
    have e1 := (f.A hP w4 (fun _ z => by unfold k_n at z; omega) k1).1
    have e2 := (f.A hP hA (fun z => absurd z (by decide)) k2).1
    refine ⟨w4.up f.1, fun i es hi hes => ?_⟩
    obtain ⟨y, y1, y2, y3, y4⟩ := w5 i es hi hes
    exact ⟨y, by rw [e1]; exact y1, by rw [e2]; exact y2, y3, y4⟩
  have hlp : ∀ (xs l : List b_E) (q : Int) (M : g_M), cs = l ++ xs → q = q0 + (b_ser l).length → k_F (O_fS po pf pt kk M0) r M0 M → k_P M r b c e L → p_P M po pf pt → (∀ (s : Nat) (x : b_E), l[s]? = some x → ∃ row, g_r M0 kk s = some row ∧ O_row b row x ds ds.length M) → g_Run (d + 61) 163 27 [(0, .ref so), (1, g_n pe), (2, g_n w2), (3, g_n l.length), (4, g_n q), (5, g_n l.length)] [] M (g_qI Q) := by
    intro xs
    induction xs with
    | nil =>
      intro l q M k1 k2 f hP hp hrw
      rw [List.append_nil] at k1
      subst k1
      have hE : b_sts (g_i M b) 246408 q D1 [] := by
        rw [eb f, k2]
        have h9 := hxs
        rw [← List.append_nil cs] at h9
        have h10 := h9.app
        obtain ⟨a1, a2, a3, a4, a5⟩ := h10
        exact ⟨a1, a2, a3, by omega, a5⟩
      have hqR : g_InR q := by
        have := hE.2.2.1
        have := hE.2.2.2.1
        exact ⟨by omega, by omega⟩
      have hend := hq M q f hP hp hqR hrw
      refine s_X9_sort_27 hpeR hwR ⟨by omega, by omega⟩ hqR ⟨by omega, by omega⟩ fun _ => ⟨fun _ => ⟨s1.up f.1, b, by rw [(eso f).2]; exact s2, c_kdE (d := d + 60) (s3.up f.1) (by decide) hE ?_⟩, fun _ => hend⟩
      intro _ _ _
      exact ⟨fun _ => hend, fun z => absurd rfl z⟩
    | cons x xs ih =>
      intro l q M k1 k2 f hP hp hrw
      have hcl := congrArg List.length k1
      rw [List.length_append, List.length_cons] at hcl
      have hcx : cs[l.length]? = some x := by rw [k1, List.getElem?_append_right (Nat.le_refl _), Nat.sub_self]; rfl
      obtain ⟨w1, w3, wpl⟩ := hways l.length x hcx
      obtain ⟨row, hr1, hr2, hr3⟩ := hrows l.length (by omega)
      obtain ⟨rp1, rp2, rp3, rp4⟩ := hrowP l.length row (by omega) hr1
      have hx21 : b_st (g_i M0 b) 2100 q D1 x.1 x.2.1 x.2.2 := by
        have h9 := hxs
        rw [k1] at h9
        have := h9.app.cons.1
        rwa [← k2] at this
      have hx5 := hx21.2.2.2.2
      have hx4 := hx21.2.2.2.1
      have hxM : ∀ {M : g_M}, k_F (O_fS po pf pt kk M0) r M0 M → b_st (g_i M b) 246408 q D1 x.1 x.2.1 x.2.2 := fun f => by rw [eb f]; exact ⟨hx21.1, hx21.2.1, hx21.2.2.1, hx4, by omega⟩
      have hqR := (hxM f).R (by decide)
      have hx0 := b_vs_pos (b_gv_vs hx21.2.2.1)
      obtain ⟨e0, e1, e2, e3⟩ := b_el_at hx21.1
      have hel := b_el_len x.1 x.2.1 x.2.2
      refine s_X9_sort_27 hpeR hwR ⟨by omega, by omega⟩ hqR ⟨by omega, by omega⟩ fun _ => ⟨fun _ => ⟨s1.up f.1, b, by rw [(eso f).2]; exact s2, c_kd2 (d := d + 60) (s3.up f.1) (by decide) (hxM f) ?_⟩, fun z => absurd (by omega) z⟩
      intro _ _ _
      refine ⟨fun z => absurd z (by omega), fun _ => ⟨po, by rw [(eso f).2]; exact h2, b, by rw [(eso f).2]; exact s2, hp.1, c_setName (d := d + 59) hp (s3.up f.1) (by decide) hpob hpfb hptb (hxM f) (fun hpo M1 f1 hp1 hi1 => ?_) fun z => absurd wpl.1 z⟩⟩
      intro _ _ _
      have npr : ¬ p_S po pf pt r := fun z => nr (Or.inl z)
      have hP1 : k_P M1 r b c e L := hP.of f1 npr fun a n ha hn z => by
        rcases z with z | z | z
        · subst z; exact g_neOA hp.1 ha rfl
        · subst z; have := hp.2.2.2.1.fn ha; unfold k_n at hn; omega
        · subst z; have := hp.2.2.2.2.1.fn ha; unfold k_n at hn; omega
      have kf1 : k_F (O_fS po pf pt kk M0) r M M1 := (k_F.of f1 npr).up fun _ z => Or.inl z
      have f01 := f.tr kf1
      have hW1 : p_W M1 po pf pt b 246408 0 (p_sp x.2.1) := p_W.of hp1 (s3.up f01.1) (by decide) hi1 (by rw [eb f01]; exact e1) (by omega) (by omega)
      have hrw1 : ∀ (s : Nat) (y : b_E), l[s]? = some y → ∃ row, g_r M0 kk s = some row ∧ O_row b row y ds ds.length M1 := fun s y hs => by
        obtain ⟨row2, z1, z2⟩ := hrw s y hs
        have hsl := (List.getElem?_eq_some_iff.mp hs).1
        obtain ⟨t1, t2, t3, t4⟩ := hrowP s row2 (by omega) z1
        refine ⟨row2, z1, hkeep (s := s) hP (k_F.of f1 npr) (fun z => ?_) (fun z => ?_) (s3.up f.1) z2⟩
        · rcases z with z | z | z
          · exact t1 z
          · exact t2 z
          · exact t3 z
        · rcases z with z | z | z
          · exact hpob z.symm
          · exact hpfb z.symm
          · exact hptb z.symm
      have h62 : ∀ (k i : Nat) (M2 : g_M), i + k = ds.length → k_F (O_fS po pf pt kk M0) r M0 M2 → k_P M2 r b c e L → p_W M2 po pf pt b 246408 0 (p_sp x.2.1) → (∀ (s : Nat) (y : b_E), l[s]? = some y → ∃ row, g_r M0 kk s = some row ∧ O_row b row y ds ds.length M2) → O_row b row x ds i M2 → g_Run (d + 61) 163 62 [(0, .ref so), (1, g_n pe), (2, g_n w2), (3, g_n l.length), (4, g_n q), (5, g_n l.length), (6, g_n i)] [] M2 (g_qI Q) := by
        intro k
        induction k with
        | zero =>
          intro i M2 hi f2 hP2 hW2 hrw2 hro2
          have h142 : g_i M2 so 14 = ds.length := by rw [(eso f2).1]; exact h14
          refine s_X9_sort_62 hpeR hwR ⟨by omega, by omega⟩ hqR ⟨by omega, by omega⟩ ⟨by omega, by omega⟩ fun _ => ⟨s1.up f2.1, fun z => absurd z (by omega), fun _ => ⟨⟨by omega, by omega⟩, b, by rw [(eso f2).2]; exact s2, c_nx2 (d := d + 60) (s3.up f2.1) (by decide) (hxM f2) ?_⟩⟩
          intro _ _ _
          refine ⟨⟨by omega, by omega⟩, ?_⟩
          have h9 := ih (l ++ [x]) (q + (b_el x.1 x.2.1 x.2.2).length) M2 (by rw [k1]; simp) (by rw [b_ser_app, List.length_append, b_ser_1]; omega) f2 hP2 hW2.1 fun s y hs => ?_
          · rwa [List.length_append, List.length_singleton, show ((l.length + 1 : Nat) : Int) = (l.length : Int) + 1 by omega] at h9
          · rcases Nat.lt_or_ge s l.length with hsl | hsl
            · rw [List.getElem?_append_left hsl] at hs
              exact hrw2 s y hs
            · have hs2 := (List.getElem?_eq_some_iff.mp hs).1
              rw [List.length_append, List.length_singleton] at hs2
              have : s = l.length := by omega
              subst this
              rw [List.getElem?_append_right (Nat.le_refl _), Nat.sub_self] at hs
              cases hs
              exact ⟨row, hr1, by rwa [show i = ds.length by omega] at hro2⟩
        | succ k ihk =>
          intro i M2 hi f2 hP2 hW2 hrw2 hro2
          have h142 : g_i M2 so 14 = ds.length := by rw [(eso f2).1]; exact h14
          obtain ⟨es, hes⟩ : ∃ es, ds[i]? = some es := ⟨_, List.getElem?_eq_getElem (by omega)⟩
          obtain ⟨dp, p1, p2, p3⟩ := hpl i es hes
          obtain ⟨m1, m2⟩ := hok.2.2 es (List.mem_of_getElem? hes)
          have hdpR := p2.R (by decide)
          refine s_X9_sort_62 hpeR hwR ⟨by omega, by omega⟩ hqR ⟨by omega, by omega⟩ ⟨by omega, by omega⟩ fun _ => ⟨s1.up f2.1, fun _ => ⟨kk, by rw [(eso f2).2]; exact h11, _, hkk.up f2.1, ⟨by omega, by omega⟩, row, by rw [ekk f2]; exact hr1, be, by rw [(eso f2).2]; exact h6, _, hbe.up f2.1, ⟨by omega, by omega⟩, wa, by rw [(eso f2).2]; exact h12, _, hwa.up f2.1, ⟨by omega, by omega⟩, ?_⟩, fun z => absurd (by omega) z⟩
          rw [ebe f2, p1, ewa f2, w1]
          refine c_sortKey (d := d + 1) (s1.up f2.1) (by rw [(eso f2).2]; exact h0) (by rw [(eso f2).2]; exact s2) (by rw [(eso f2).2]; exact h2) (s3.up f2.1) hP2 hW2 (by rw [p_sp_eq]; simp) wpl.1.2.1 w3 (by rw [eb f2]; exact p2) m1 hL fun M3 y f3 hP3 y1 y2 y3 => ?_
          intro _ _ _
          have f23 := f2.tr f3.up0
          rw [eb f2] at y1
          refine ⟨_, hro2.1.up f3.1, ⟨by omega, by omega⟩, fun M36 e36 _ => ⟨⟨by omega, by omega⟩, ?_⟩⟩
          have g36 : g_fr (fun z => z = row) M3 M36 := by subst e36; exact g_fr.wi _ _ rfl
          have nrow : r ≠ row := fun z => by subst z; exact g_neOA hP0.1 hr2 rfl
          have hP36 : k_P M36 r b c e L := hP3.of g36 nrow fun a n ha hn z => by
            subst z
            have := (hro2.1.up f3.1).fn ha
            unfold k_n at hn
            omega
          have k36 : k_F (fun z => z = row) r M3 M36 := k_F.of g36 nrow
          have f36 : k_F (O_fS po pf pt kk M0) r M0 M36 := f23.tr (k36.up fun z hz => by subst hz; exact Or.inr ⟨l.length, by omega, hr1⟩)
          have hW3 := hW2.kS hP2 f3 (fun z => z) (fun z => z) (fun z => z) fun z => z
          have hW36 := hW3.kS hP3 k36 rp1.symm rp2.symm rp3.symm rp4.symm
          have h9 := ihk (i + 1) M36 (by omega) f36 hP36 hW36 (fun s y2 hs => ?_) ⟨(hro2.1.up f3.1).up k36.1, fun j es2 hj hes2 => ?_⟩
          · rwa [show ((i + 1 : Nat) : Int) = (i : Int) + 1 by omega] at h9
          · obtain ⟨row2, z1, z2⟩ := hrw2 s y2 hs
            have hsl := (List.getElem?_eq_some_iff.mp hs).1
            have hne : row2 ≠ row := fun z => by
              subst z
              have := hinj s l.length row2 (by omega) (by omega) z1 hr1
              omega
            exact ⟨row2, z1, hkeep (s := s) hP3 k36 hne rp4.symm (s3.up f23.1) (hkeep (s := s) hP2 f3 (fun z => z) (fun z => z) (s3.up f2.1) z2)⟩
          · have hb36 : g_i M36 b = g_i M0 b := eb f36
            by_cases hji : j = i
            · subst hji
              rw [hes] at hes2
              cases hes2
              refine ⟨y, by subst e36; rw [g_i_wi, if_pos ⟨rfl, rfl⟩], by rw [hb36]; exact y1, y2, ?_⟩
              exact y3.eq w3 (O_key_bst w3 _ _) fun _ => Iff.rfl
            · obtain ⟨u, u1, u2, u3, u4⟩ := (hkeep (s := 0) hP2 f3 (fun z => z) (fun z => z) (s3.up f2.1) hro2).2 j es2 (by omega) hes2
              rw [eb f23] at u2
              exact ⟨u, by subst e36; rw [g_i_wi, if_neg (by omega)]; exact u1, by rw [hb36]; exact u2, u3, u4⟩
      exact h62 ds.length 0 M1 (by omega) f01 hP1 hW1 hrw1 ⟨hr2.up f01.1, fun i es hi => absurd hi (by omega)⟩
  exact hlp cs [] q0 M0 rfl (by show q0 = q0 + ((0 : Nat) : Int); omega) (k_F.rf _ _ _) hP0 hp0 fun s x hs => absurd hs (by simp)
end CFILL
