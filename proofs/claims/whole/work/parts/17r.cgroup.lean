/-! STAGES: $group, the class: from its element on -/
noncomputable def G_mkE (n : Nat) (e : b_E) (ds : List (List b_E)) : List (List b_E) := match b_ch e.2.2 with
  | [] => []
  | y :: xs => G_mk n y xs ds
def G_tbE (n : Nat) (e : b_E) (ds : List (List b_E)) : Prop := match b_ch e.2.2 with
  | [] => False
  | y :: xs => G_tb n y xs ds
section CGROUP2
variable {so r b po pf pt tp tf tt ou sc be fr ke gr va sv oa : Nat} {M0 M M1 : g_M} {lo g c e0 : Int} {L : List Int} {ds : List (List b_E)} {A : Nat → Prop}
theorem G_T.pth (h : G_T so b po pf pt ou sc be fr ke gr va M) (f : g_fr (p_S po pf pt) M M1) (hp : p_P M1 po pf pt) : G_T so b po pf pt ou sc be fr ke gr va M1 := by
  obtain ⟨h1, h2, h3⟩ := S_Y.path h.1 f hp
  obtain ⟨-, ⟨t1, t2, t3⟩, ⟨k1, k2, k3⟩, hn⟩ := id h
  have er : g_r M1 so = g_r M so := (f.2 so (J_nO h.1.2.2.1 h.1.1.1 (by decide))).2
  exact ⟨h2, ⟨by rw [er]; exact t1, by rw [er]; exact t2, by rw [er]; exact t3⟩, ⟨f.A k1, f.A k2, f.A k3⟩, hn⟩
theorem G_T.Y (h : G_T so b po pf pt ou sc be fr ke gr va M) (hy : S_Y so b po pf pt ou sc be fr M M1) : G_T so b po pf pt ou sc be fr ke gr va M1 := by
  have h2 := hy.T h.1
  obtain ⟨-, ⟨t1, t2, t3⟩, ⟨k1, k2, k3⟩, hn⟩ := id h
  obtain ⟨n1, n2, n3, n4, n5, n6, -⟩ := h.1.n1
  have er := hy.2.1 so n2 n3 n4 n6 n1
  have fT : g_fr (fun _ => True) M M1 := ⟨hy.1, fun y hy => absurd trivial hy⟩
  exact ⟨h2, ⟨by rw [er]; exact t1, by rw [er]; exact t2, by rw [er]; exact t3⟩, ⟨fT.A k1, fT.A k2, fT.A k3⟩, hn⟩
def G_9 (so b po pf pt tp tf tt ou sc be fr ke gr va : Nat) (y : Nat) : Prop := S_9 so b po pf pt ou sc be fr y ∨ p_S tp tf tt y ∨ y = ke ∨ y = gr ∨ y = va
theorem G_X.U (hJ : J_T so r b po pf pt tp tf tt ou sc be fr sv oa M) (hT : G_T so b po pf pt ou sc be fr ke gr va M) (hP : k_P M r b c e0 L) (h : G_X so b po pf pt ou sc fr ke gr va lo M M1) (hlo : 82808 ≤ lo) (hA : ∀ y, G_9 so b po pf pt tp tf tt ou sc be fr ke gr va y → A y) : S_U A so r b po pf pt tp tf tt ou sc c e0 L M M1 := by
  have hT1 := h.T hT
  obtain ⟨a1, a2, a3, a4, a5, a6, a7⟩ := h
  obtain ⟨hS, t1, ⟨t2, ⟨T1, T2, T3, T4, T5, T6⟩, ⟨n1, n2, n3, n4, n5⟩⟩, -⟩ := hJ
  have hnn := hT.n
  obtain ⟨-, -, ⟨k1, k2, k3⟩, -⟩ := id hT
  obtain ⟨⟨s1, s2, s3⟩, w2, ⟨P1, P2, P3, P4, P5, P6⟩, -, ⟨q1, q2, q3⟩, ⟨u1, u2⟩, ⟨v1, v2⟩, hne⟩ := id hS
  have f : g_fr (fun y => (y = so ∨ y = b ∨ p_S po pf pt y ∨ y = ou ∨ y = sc ∨ y = fr) ∨ y = ke ∨ y = gr ∨ y = va) M M1 := ⟨a1, fun x hx => ⟨funext fun k => a3 x (fun z => hx (Or.inl (Or.inl z))) (fun z => hx (Or.inl (Or.inr (Or.inl z)))) (fun z => hx (Or.inl (Or.inr (Or.inr (Or.inl (Or.inl z)))))) (fun z => hx (Or.inl (Or.inr (Or.inr (Or.inl (Or.inr (Or.inl z))))))) (fun z => hx (Or.inl (Or.inr (Or.inr (Or.inl (Or.inr (Or.inr z))))))) (fun z => hx (Or.inl (Or.inr (Or.inr (Or.inr (Or.inl z)))))) (fun z => hx (Or.inl (Or.inr (Or.inr (Or.inr (Or.inr (Or.inl z))))))) (fun z => hx (Or.inl (Or.inr (Or.inr (Or.inr (Or.inr (Or.inr z))))))) (fun z => hx (Or.inr (Or.inl z))) (fun z => hx (Or.inr (Or.inr (Or.inl z)))) (fun z => hx (Or.inr (Or.inr (Or.inr z)))) k, funext fun k => a2 x (fun z => hx (Or.inl (Or.inr (Or.inr (Or.inl (Or.inl z)))))) (fun z => hx (Or.inl (Or.inr (Or.inr (Or.inl (Or.inr (Or.inl z))))))) (fun z => hx (Or.inl (Or.inr (Or.inr (Or.inl (Or.inr (Or.inr z))))))) (fun z => hx (Or.inl (Or.inr (Or.inr (Or.inr (Or.inr (Or.inl z))))))) (fun z => hx (Or.inl (Or.inr (Or.inl z)))) k⟩⟩
  have hsub : ∀ y, ((y = so ∨ y = b ∨ p_S po pf pt y ∨ y = ou ∨ y = sc ∨ y = fr) ∨ y = ke ∨ y = gr ∨ y = va) → G_9 so b po pf pt tp tf tt ou sc be fr ke gr va y := fun y z => by
    rcases z with (z | z | z | z | z | z) | z
    · exact Or.inl (Or.inl z)
    · exact Or.inl (Or.inr (Or.inl z))
    · exact Or.inl (Or.inr (Or.inr (Or.inl z)))
    · exact Or.inl (Or.inr (Or.inr (Or.inr (Or.inl z))))
    · exact Or.inl (Or.inr (Or.inr (Or.inr (Or.inr (Or.inl z)))))
    · exact Or.inl (Or.inr (Or.inr (Or.inr (Or.inr (Or.inr (Or.inr z))))))
    · exact Or.inr (Or.inr z)
  obtain ⟨m1, m2⟩ := S_9.nr hS hP
  have nS9 : ∀ {x : Nat}, (x = so ∨ x = b ∨ p_S po pf pt x ∨ x = ou ∨ x = sc ∨ x = fr) → S_9 so b po pf pt ou sc be fr x := fun z => by
    rcases z with z | z | z | z | z | z
    · exact Or.inl z
    · exact Or.inr (Or.inl z)
    · exact Or.inr (Or.inr (Or.inl z))
    · exact Or.inr (Or.inr (Or.inr (Or.inl z)))
    · exact Or.inr (Or.inr (Or.inr (Or.inr (Or.inl z))))
    · exact Or.inr (Or.inr (Or.inr (Or.inr (Or.inr (Or.inr z)))))
  have nr : ¬ ((r = so ∨ r = b ∨ p_S po pf pt r ∨ r = ou ∨ r = sc ∨ r = fr) ∨ r = ke ∨ r = gr ∨ r = va) := fun z => by
    rcases z with z | z | z | z
    · exact m1 (nS9 z)
    · exact g_neOA hP.1 k1 z
    · exact g_neOA hP.1 k2 z
    · exact g_neOA hP.1 k3 z
  have na : ∀ (a : Nat) (n : Int), g_A M a 1 n → k_n n → ¬ ((a = so ∨ a = b ∨ p_S po pf pt a ∨ a = ou ∨ a = sc ∨ a = fr) ∨ a = ke ∨ a = gr ∨ a = va) := fun a n ha hn z => by
    have hn' := hn
    unfold k_n at hn'
    rcases z with z | z | z | z
    · exact m2 a n ha hn (nS9 z)
    · exact g_neAA ha k1 (by omega) z
    · exact g_neAA ha k2 (by omega) z
    · exact g_neAA ha k3 (by omega) z
  have nO5 : ∀ {x : Nat}, g_O M x 5 → x ≠ po → ¬ ((x = so ∨ x = b ∨ p_S po pf pt x ∨ x = ou ∨ x = sc ∨ x = fr) ∨ x = ke ∨ x = gr ∨ x = va) := fun h hx z => by
    rcases z with (z | z | (z | z | z) | z | z | z) | z | z | z
    · exact g_neOO h s1 (by decide) z
    · exact g_neOA h s3 z
    · exact hx z
    · exact g_neOA h P4 z
    · exact g_neOA h P5 z
    · exact g_neOO h u1 (by decide) z
    · exact g_neOO h v1 (by decide) z
    · exact g_neOA h q2 z
    · exact g_neOA h k1 z
    · exact g_neOA h k2 z
    · exact g_neOA h k3 z
  have rt := (f.2 tp (nO5 T1 n1.symm)).2
  obtain ⟨o1, o2, o3, o4, o5, o6, o7, o8⟩ := hS.n1
  exact ⟨⟨(k_F.of f nr).up fun y z => hA y (hsub y z), fun k hk => a4 k (by omega) (by omega) (by omega) (by omega), a2 so o2 o3 o4 o6 o1, fun k hk => a5 k (by omega) (by omega), a6, a7⟩, hP.of f nr na, hT1.1.2.2.2.2.2.1.2, ⟨f.O T1, by rw [rt]; exact T2, by rw [rt]; exact T3, f.A T4, f.A T5, T6⟩⟩
theorem G_X.J (hJ : J_T so r b po pf pt tp tf tt ou sc be fr sv oa M) (hT : G_T so b po pf pt ou sc be fr ke gr va M) (h : G_X so b po pf pt ou sc fr ke gr va lo M M1) (hp2 : p_P M1 tp tf tt) : J_T so r b po pf pt tp tf tt ou sc be fr sv oa M1 := by
  have hT1 := h.T hT
  obtain ⟨a1, a2, -⟩ := h
  obtain ⟨hS, t1, ⟨t2, -, t4⟩, ⟨t5, t6, t7, t8, t9⟩⟩ := hJ
  obtain ⟨⟨s1, s2, s3⟩, w2, ⟨P1, P2, P3, P4, P5, P6⟩, -, ⟨q1, q2, q3⟩, ⟨u1, u2⟩, ⟨v1, v2⟩, hne⟩ := id hS
  obtain ⟨o1, o2, o3, o4, o5, o6, o7, o8⟩ := hS.n1
  have fT : g_fr (fun _ => True) M M1 := ⟨a1, fun y hy => absurd trivial hy⟩
  have rs := a2 so o2 o3 o4 o6 o1
  have rv := a2 sv (g_neOO t6 P1 (by decide)) (g_neOA t6 P4) (g_neOA t6 P5) (g_neOO t6 v1 (by decide)) (g_neOA t6 s3)
  exact ⟨hT1.1, by rw [rs]; exact t1, ⟨by rw [rs]; exact t2, hp2, t4⟩, ⟨by rw [rs]; exact t5, fT.O t6, by rw [rv]; exact t7, fT.A t8, t9⟩⟩
theorem c_group {d n De : Nat} {Q : Int → g_M → Prop} {pe : Int} {e : b_E} (hJ : J_T so r b po pf pt tp tf tt ou sc be fr sv oa M) (hT : G_T so b po pf pt ou sc be fr ke gr va M) (hP : k_P M r b c e0 L) (hno : b_at (g_i M b) 0 [10, 0]) (hg : g_i M so 17 = g) (hg01 : g = 0 ∨ g = 1) (hbt : S_belt so b be g ds M) (he : b_st (g_i M b) 2100 pe De e.1 e.2.1 e.2.2) (hDe : De ≤ 17) (hn : 16 ≤ n) (hA : ∀ y, G_9 so b po pf pt tp tf tt ou sc be fr ke gr va y → A y) (hq : G_gf e ≠ 0 → ∀ M1, S_U A so r b po pf pt tp tf tt ou sc c e0 L M M1 → Q (G_gf e) M1) (hq4 : G_gf e = 0 → G_tbE n e ds → ∀ M1, S_U A so r b po pf pt tp tf tt ou sc c e0 L M M1 → Q 4 M1) (hf5 : G_gf e = 0 → ¬ G_tbE n e ds → S_bad (G_mkE n e ds) → ∀ M1, S_U A so r b po pf pt tp tf tt ou sc c e0 L M M1 → Q 5 M1) (hf0 : G_gf e = 0 → ¬ G_tbE n e ds → ¬ S_bad (G_mkE n e ds) → ∀ M1, S_U A so r b po pf pt tp tf tt ou sc c e0 L M M1 → g_i M1 so 17 = 1 - g → S_belt so b be (1 - g) (G_mkE n e ds) M1 → Q 0 M1) : g_Call (d + 71) 157 [.ref so, g_n pe] M (g_qI Q) := by
  have hpeR := he.R (by decide)
  have he4 := he.2.2.2.1
  have he5 := he.2.2.2.2
  have hel := b_el_len e.1 e.2.1 e.2.2
  have heM : b_st (g_i M b) 246408 pe De e.1 e.2.1 e.2.2 := ⟨he.1, he.2.1, he.2.2.1, he4, by omega⟩
  have hA2 : ∀ y, S_9 so b po pf pt ou sc be fr y ∨ p_S tp tf tt y → A y := fun y z => hA y (z.elim Or.inl fun z => Or.inr (Or.inl z))
  refine m_X9_group hpeR fun _ => ⟨hT.1.1.1, c_wrongInGroup (d := d + 64) hT.1.1 hT.1.2.1 hT.1.2.2.1 heM (by omega) fun M1 f1 g1 => ?_⟩
  intro _ _ _
  have f1' : g_fr (fun y => p_S po pf pt y ∨ p_S tp tf tt y) M M1 := f1.up fun _ z => Or.inl z
  -- the other path stays
  have hp2 : p_P M1 tp tf tt := by
    obtain ⟨-, -, ⟨-, ⟨T1, T2, T3, T4, T5, T6⟩, ⟨n1, n2, n3, n4, n5⟩⟩, -⟩ := id hJ
    have rt := (f1.2 tp fun z => by
      obtain ⟨P1, -, -, P4, P5, -⟩ := hT.1.2.2.1
      rcases z with z | z | z
      · exact n1 z.symm
      · exact g_neOA T1 P4 z
      · exact g_neOA T1 P5 z).2
    exact ⟨f1.O T1, by rw [rt]; exact T2, by rw [rt]; exact T3, f1.A T4, f1.A T5, T6⟩
  obtain ⟨U1, hJ1, eso, eb, ebe, -, -⟩ := J_pth hJ hP f1' g1 hp2 hA2
  have hT1 := hT.pth f1 g1
  refine ⟨fun g0 => ?_, fun g0 => hq g0 M1 U1⟩
  obtain ⟨hk, yb, xs, hch, hyn, hye, hxs⟩ := G_gf_0 g0
  have hmk : G_mkE n e ds = G_mk n yb xs ds := by unfold G_mkE; rw [hch]
  have htb : G_tbE n e ds ↔ G_tb n yb xs ds := by unfold G_tbE; rw [hch]
  rw [hmk] at hf5 hf0
  rw [htb] at hq4 hf5 hf0
  have hbt1 : S_belt so b be g ds M1 := hbt.keep (by rw [eso]) (fun k => by rw [ebe]) fun k _ _ => by rw [eb]
  refine c_beginM (d := d + 68) (g := g) hT1.1 (by rw [eso]; exact hg) hg01 hbt1 fun M2 hY2 hS2 h17 h19 hbt2 hD2 hs2 hb2 f12 => ?_
  intro _ _
  obtain ⟨U2, hJ2, -⟩ := J_T.Y hJ1 U1.2.1 hY2 hA2
  have hT2 := hT1.Y hY2
  have he2 : b_st (g_i M2 b) 2100 pe De e.1 e.2.1 e.2.2 := by rw [hb2, eb]; exact he
  have hno2 : b_at (g_i M2 b) 0 [10, 0] := by rw [hb2, eb]; exact hno
  refine ⟨b, hT2.1.1.2.1, c_fi2 (d := d + 69) hT2.1.1.2.2 (by decide) (by rw [hb2, eb]; exact heM) ?_⟩
  intro _ _ hqyR
  obtain ⟨D1, eD, hkids, hkl⟩ := he2.kids (Or.inl hk)
  rw [hch] at hkids hkl
  obtain ⟨hy, hr⟩ := hkids.cons
  have hylen : yb.2.2.length ≤ 2100 := by have := hy.2.2.2.2; rw [b_el_len] at this; have := hy.2.2.2.1; omega
  have hyg : b_gv 16 yb.1 yb.2.2 := b_gv_le hy.2.2.1 (by omega)
  have hxok : ∀ x ∈ xs, G_okx x ∧ b_gv 17 x.1 x.2.2 ∧ x.2.2.length ≤ 2100 := fun x hx => by
    have h1 := hr.2.1 x hx
    refine ⟨hxs x hx, b_gv_le h1.2 (by omega), ?_⟩
    have h3 : ∀ l : List b_E, x ∈ l → x.2.2.length ≤ (b_ser l).length := by
      intro l
      induction l with
      | nil => exact fun h => absurd h (by simp)
      | cons z l ih =>
        intro h
        rw [b_ser_len, b_el_len]
        rcases List.mem_cons.mp h with h | h
        · rw [h]
          omega
        · have := ih h
          omega
    have h4 := h3 xs hx
    have h5 := hr.2.2.2.1
    have h6 := hr.2.2.1
    omega
  have hmany := b_ser_many xs
  have hcl : (b_ser (yb :: xs)).length = (b_el yb.1 yb.2.1 yb.2.2).length + (b_ser xs).length := b_ser_len _ _
  have hok := hbt2.2.1
  have hl200 := hok.1
  obtain ⟨hlo1, hlo2, -⟩ := S_lo_R hg01
  have h0R : g_InR (G_gf e) := by rw [g0]; exact ⟨by decide, by decide⟩
  refine c_groupKeys (d := d) (n := n) (J := 40000) hT2 rfl hg01 hbt2 hno2 hy (by omega) hye hn hpeR h0R hD2.1 hD2.2.1 hs2 fun M3 y0 hX3 hu3 hF3 hs3 hy0 hK3 h193 => ?_
  -- the groups one by one
  have hlp : ∀ (t i : Nat) (M4 : g_M) (u y1 : List Int), i + t = ds.length → G_X so b po pf pt ou sc fr ke gr va (S_lo g) M2 M4 → S_D so b ou fr (S_lo g) (40000 + 40400 * i) (((List.range i).filter fun m => G_f n yb ds m == m).map (G_doc n yb xs ds)) u M4 → c_Wr sc b 246408 163608 246408 (y0 ++ y1) M4 → y1.length ≤ 40000 → G_K n yb ds (S_lo g) b ke gr ds.length y0.length M4 → G_sb so (∃ j, j < i ∧ G_f n yb ds j = j ∧ ∃ x ∈ xs, G_bd n (G_ms n yb ds j) x) M4 → g_Run (d + 70) 157 165 [(0, .ref so), (1, g_n pe), (2, g_n (G_gf e)), (3, g_n (pe + 6 + e.2.1.length)), (4, g_n (163608 + y0.length)), (5, g_n i)] [] M4 (g_qI Q) := by
    intro t
    induction t with
    | zero =>
      intro i M4 u y1 hi hX4 hD4 hs4 hy1 hK4 h194
      have hiN : i = ds.length := by omega
      subst hiN
      have hT4 := hX4.T hT2
      have U4' := hX4.U hJ2 hT2 U2.2.1 hlo1 hA
      have U4 := (U1.tr U2).tr U4'
      have hJ4 := hX4.J hJ2 hT2 U4'.2.2.2
      have h14 : g_i M4 so 14 = ds.length := by rw [hX4.2.2.2.1 14 (by decide) (by decide) (by decide) (by decide)]; exact hbt2.1
      have hP4 : (∃ j, j < ds.length ∧ G_f n yb ds j = j ∧ ∃ x ∈ xs, G_bd n (G_ms n yb ds j) x) ↔ G_tb n yb xs ds := by
        unfold G_tb G_ld
        constructor
        · rintro ⟨j, j1, j2, x, x1, x2⟩
          exact ⟨j, List.mem_filter.mpr ⟨List.mem_range.mpr j1, by rw [j2]; simp⟩, x, x1, x2⟩
        · rintro ⟨j, j1, x, x1, x2⟩
          obtain ⟨j2, j3⟩ := List.mem_filter.mp j1
          exact ⟨j, List.mem_range.mp j2, by simpa using j3, x, x1, x2⟩
      refine s_X9_group_165 hpeR h0R hqyR ⟨by omega, by omega⟩ ⟨by omega, by omega⟩ fun _ => ⟨hT4.1.1.1, fun z => absurd z (by omega), fun _ => ⟨fun g1 => ?_, fun g1 => ?_⟩⟩
      · have hnt : ¬ G_tb n yb xs ds := fun z => by
          rcases h194 with ⟨h, -⟩ | ⟨-, h⟩
          · rw [h] at g1
            exact absurd g1 (by decide)
          · exact h (hP4.mpr z)
        refine c_endM (d := d + 69) (g := g) hT4.1 (by rw [hX4.2.2.2.1 17 (by decide) (by decide) (by decide) (by decide)]; exact h17) hg01 hD4 (fun es2 hes2 => ?_) ⟨fun z M5 h5 => ?_, fun z M5 h5 k1 k2 => ?_⟩
        · obtain ⟨j, hj, rfl⟩ := List.mem_map.mp hes2
          have hj1 := List.mem_range.mp (List.mem_filter.mp hj).1
          exact G_doc_good hok hj1 hyg hylen hxok
        · intro _ _ _
          exact hf5 g0 hnt z M5 (U4.tr (J_T.Y hJ4 U4.2.1 h5 hA2).1)
        · intro _ _ _
          exact hf0 g0 hnt z M5 (U4.tr (J_T.Y hJ4 U4.2.1 h5 hA2).1) k1 k2
      · have ht : G_tb n yb xs ds := by
          rcases h194 with ⟨-, h⟩ | ⟨h, -⟩
          · exact hP4.mp h
          · exact absurd h g1
        exact hq4 g0 ht M4 U4
    | succ t ih =>
      intro i M4 u y1 hi hX4 hD4 hs4 hy1 hK4 h194
      have hT4 := hX4.T hT2
      have h14 : g_i M4 so 14 = ds.length := by rw [hX4.2.2.2.1 14 (by decide) (by decide) (by decide) (by decide)]; exact hbt2.1
      obtain ⟨⟨⟨s1, s2, s3⟩, w2, hp, ⟨w4, w5, w6, w7⟩, ⟨q1, q2, q3⟩, ⟨u1, u2⟩, ⟨c1, c2⟩, -⟩, ⟨t1, t2, t3⟩, ⟨k1, k2, k3⟩, -⟩ := id hT4
      obtain ⟨hko, hgf⟩ := hK4 i (by omega)
      have hfs : ((List.range (i + 1)).filter fun m => G_f n yb ds m == m) = ((List.range i).filter fun m => G_f n yb ds m == m) ++ if G_f n yb ds i = i then [i] else [] := by
        rw [List.range_succ, List.filter_append]
        congr 1
        by_cases h : G_f n yb ds i = i
        · rw [if_pos h]
          simp [h]
        · rw [if_neg h]
          simp [h]
      refine s_X9_group_165 hpeR h0R hqyR ⟨by omega, by omega⟩ ⟨by omega, by omega⟩ fun _ => ⟨s1, fun _ => ⟨gr, t2, _, k2, ⟨by omega, by omega⟩, ?_⟩, fun z => absurd (by omega) z⟩
      rw [hgf]
      refine ⟨fun g1 => ?_, fun g1 => ⟨⟨by omega, by omega⟩, ?_⟩⟩
      rotate_left
      · have hne : G_f n yb ds i ≠ i := by omega
        rw [if_neg hne, List.append_nil] at hfs
        have h9 := ih (i + 1) M4 u y1 (by omega) hX4 (by
          rw [hfs]
          exact ⟨hD4.1, hD4.2.1.up (by omega), hD4.2.2⟩) hs4 hy1 hK4 (h194.cg ?_ rfl)
        · rwa [show ((i + 1 : Nat) : Int) = (i : Int) + 1 by omega] at h9
        · constructor
          · rintro ⟨j, j1, j2⟩
            exact ⟨j, by omega, j2⟩
          · rintro ⟨j, j1, j2, j3⟩
            refine ⟨j, ?_, j2, j3⟩
            rcases Nat.lt_or_ge j i with g | g
            · exact g
            · have : j = i := by omega
              rw [this] at j2
              exact absurd j2 hne
      have hfi : G_f n yb ds i = i := by omega
      rw [if_pos hfi] at hfs
      obtain ⟨hu4, hF4, h184⟩ := hD4
      refine c_openDoc (d := d + 67) ⟨s1, s2, s3⟩ w4 hu4 fun r15 M12 f12' W12 hr15 => ?_
      intro _ _ hrR
      -- writing keeps all
      have hw : ∀ {Ma Mb : g_M}, G_X so b po pf pt ou sc fr ke gr va (S_lo g) M2 Ma → e_fr (c_WL ou b (S_lo g) (S_lo g + 40400)) Ma Mb → G_X so b po pf pt ou sc fr ke gr va (S_lo g) M2 Mb ∧ (∀ k, g_i Mb so k = g_i Ma so k) ∧ (∀ k, g_i Mb fr k = g_i Ma fr k) ∧ (∀ k, g_i Mb sc k = g_i Ma sc k) ∧ (∀ k, g_i Mb ke k = g_i Ma ke k) ∧ (∀ k, g_i Mb gr k = g_i Ma gr k) ∧ ∀ k, ¬ (S_lo g ≤ k ∧ k < S_lo g + 40400) → g_i Mb b k = g_i Ma b k := by
        intro Ma Mb hXa f
        have hTa := hXa.T hT2
        obtain ⟨a1, a2, a3, a4, a5, a6, a7, a8⟩ := hTa.1.n1
        obtain ⟨b1, b2, b3, b4, b5, b6, b7⟩ := hTa.1.n2
        obtain ⟨-, -, -, ⟨f1, -, f3⟩, -, -⟩ := hTa.1.n3
        have hnn := hTa.n
        have key : ∀ {x : Nat}, x ≠ ou → x ≠ b → ∀ k, g_i Mb x k = g_i Ma x k := fun k1 k2 k => f.2.1 _ k fun z => by
          rcases z with ⟨z, -⟩ | ⟨z, -⟩
          · exact k1 z
          · exact k2 z
        refine ⟨hXa.tr (G_X.e (lo := S_lo g) hTa f fun y k z => ?_), key a5 a1, key f3.symm b7.symm, key f1.symm b5.symm, key (hnn ke (Or.inl rfl)).2.2.2.2.2.1 (hnn ke (Or.inl rfl)).2.1, key (hnn gr (Or.inr (Or.inl rfl))).2.2.2.2.2.1 (hnn gr (Or.inr (Or.inl rfl))).2.1, fun k hk => f.2.1 b k fun z => ?_⟩
        · rcases z with ⟨z, -⟩ | ⟨z, z2⟩
          · exact Or.inr (Or.inl z)
          · exact Or.inr (Or.inr (Or.inr (Or.inr (Or.inr (Or.inr (Or.inr ⟨z, Or.inr z2⟩))))))
        · rcases z with ⟨z, -⟩ | ⟨-, z⟩
          · exact b4 z
          · exact hk z
      obtain ⟨hX12, i1, i2, i3, i4, i5, i6⟩ := hw hX4 f12'
      have hT12 := hX12.T hT2
      have hko12 : G_ko (g_i M12 b) (S_lo g) y0.length (g_i M4 ke i) (G_kv n yb (ds.getD i [])) := hko.kp (Nat.le_refl _) (fun k _ k2 => i6 k k2) (by omega)
      obtain ⟨nm, hkst, hdis⟩ := id hko12
      obtain ⟨kd1, kd2⟩ := G_kd hkst.2.2.1
      refine ⟨ou, hT12.1.2.2.2.1.1, b, hT12.1.1.2.1, ke, hT12.2.1.1, _, hT12.2.2.1.1, ⟨by omega, by omega⟩, ?_⟩
      rw [i4]
      refine c_kd2 (d := d + 69) hT12.1.1.2.2 (by decide) hkst ?_
      intro _ _ _
      refine ⟨hT12.1.2.2.2.2.2.1.1, c_head (d := d + 67) (j := 48) (by decide) W12 kd1 kd2 fun M32 f32 W32 => ?_⟩
      intro _ _
      obtain ⟨hX32, l1, l2, l3, l4, l5, l6⟩ := hw hX12 f32
      have hT32 := hX32.T hT2
      refine ⟨ou, hT32.1.2.2.2.1.1, b, hT32.1.1.2.1, ke, hT32.2.1.1, _, hT32.2.2.1.1, ⟨by omega, by omega⟩, hT32.1.2.2.2.2.2.1.1, ?_⟩
      rw [l4, i4]
      obtain ⟨nm2, hkst2, -⟩ := hko12.kp (Nat.le_refl _) (fun k _ k2 => l6 k k2) (by omega)
      refine c_outVal (d := d + 68) W32 hT32.1.1.2.2 (by decide) hkst2 fun M45 f45 W45 => ?_
      intro _ _
      obtain ⟨hX45, m1, m2, m3, m4, m5, m6⟩ := hw hX32 f45
      have hT45 := hX45.T hT2
      have hy45 := hX45.req hlo1 hy
      refine ⟨b, hT45.1.1.2.1, c_nx2 (d := d + 69) hT45.1.1.2.2 (by decide) (D := D1) ⟨hy45.1, hy45.2.1, hy45.2.2.1, hy45.2.2.2.1, by have := hy45.2.2.2.2; omega⟩ ?_⟩
      intro _ _ _
      have ew : u ++ [3, 0] ++ [0, 0, 0, 0] ++ ((G_kv n yb (ds.getD i [])).1 :: (b_tx 48 ++ [0])) ++ (G_kv n yb (ds.getD i [])).2.2 = u ++ [3, 0] ++ ([0, 0, 0, 0] ++ b_ser (G_by n yb (ds.getD i []) :: ([] : List b_E).map (G_el n (G_ms n yb ds i)))) := by
        have h1 : b_ser (G_by n yb (ds.getD i []) :: ([] : List b_E).map (G_el n (G_ms n yb ds i))) = b_el (G_kv n yb (ds.getD i [])).1 (b_tx 48) (G_kv n yb (ds.getD i [])).2.2 := b_ser_1 _
        rw [h1]
        unfold b_el
        simp
      rw [ew] at W45
      refine c_groupXs (d := d) (n := n) (i := i) (J := 40000 + 40400 * i) (yb := yb) (X := xs) (dsA := ((List.range i).filter fun m => G_f n yb ds m == m).map (G_doc n yb xs ds)) (u := u) (y0 := y0) (P0 := ∃ j, j < i ∧ G_f n yb ds j = j ∧ ∃ x ∈ xs, G_bd n (G_ms n yb ds j) x) hT2 rfl hg01 hbt2 hno2 (by omega) hxok hyg hylen hn (by omega) hfi hpeR h0R hqyR hrR hr15 hy0 (by omega) (by omega) (fun M6 u2 y2 hX6 hD6 hs6 hy2 hK6 h196 => ?_) xs [] _ 0 M45 y1 rfl hr (by omega) hX45 W45 (hF4.fr (fun k _ => by rw [m1, l1, i1]) fun k => by rw [m2, l2, i2]) (fun z => h184 (by rw [m1, l1, i1] at z; exact z)) (((hs4.kp f12'.1 (f12'.2.2 _ _) i3 fun k k1 _ => i6 k (by omega)).kp f32.1 (f32.2.2 _ _) l3 fun k k1 _ => l6 k (by omega)).kp f45.1 (f45.2.2 _ _) m3 fun k k1 _ => m6 k (by omega)) hy1 (fun j hj => ?_) (h194.cg ?_ (by rw [m1, l1, i1]))
      · have h9 := ih (i + 1) M6 u2 y2 (by omega) hX6 (by
          rw [hfs, List.map_append, show (40000 + 40400 * ((i + 1 : Nat) : Int)) = 40000 + 40400 * (i : Int) + 40400 by omega]
          exact hD6) hs6 hy2 hK6 (h196.cg ?_ rfl)
        · rwa [show ((i + 1 : Nat) : Int) = (i : Int) + 1 by omega] at h9
        · constructor
          · rintro (⟨j, j1, j2⟩ | h)
            · exact ⟨j, by omega, j2⟩
            · exact ⟨i, by omega, hfi, h⟩
          · rintro ⟨j, j1, j2, j3⟩
            rcases Nat.lt_or_ge j i with g | g
            · exact Or.inl ⟨j, g, j2, j3⟩
            · have : j = i := by omega
              rw [this] at j3
              exact Or.inr j3
      · obtain ⟨z1, z2⟩ := hK4 j hj
        rw [m4, l4, i4, m5, l5, i5]
        exact ⟨((z1.kp (Nat.le_refl _) (fun k _ k2 => i6 k k2) (by omega)).kp (Nat.le_refl _) (fun k _ k2 => l6 k k2) (by omega)).kp (Nat.le_refl _) (fun k _ k2 => m6 k k2) (by omega), z2⟩
      · constructor
        · exact fun h => Or.inl h
        · rintro (h | ⟨x, hx, -⟩)
          · exact h
          · exact absurd hx (by simp)
  refine hlp ds.length 0 M3 [] [] (by omega) hX3 ⟨hu3, hF3, fun _ => rfl⟩ (by rw [List.append_nil]; exact hs3) (Nat.zero_le _) hK3 (Or.inr ⟨by rw [h193]; exact h19, ?_⟩)
  rintro ⟨j, j1, -⟩
  omega
end CGROUP2
