/-! STAGES: $lookup, the class: what stays while documents are joined -/
theorem p_rb.up {F F2 A B : Int → Int} {n n2 : Int} (hn : n ≤ n2) (hF : ∀ j, 0 ≤ j → j < n → F2 j = F j) : ∀ {st : List (List Int)} {k : Nat}, p_rb F A B n k st → p_rb F2 A B n2 k st := by
  intro st
  induction st with
  | nil => exact fun _ => trivial
  | cons x st ih =>
    intro k h
    obtain ⟨h1, h2, h3, h4, h5⟩ := h
    exact ⟨h1, h2, by omega, b_at_keep h4 fun j j1 j2 => hF j (by omega) (by omega), ih h5⟩
theorem c_Wr.ku {o buf : Nat} {n l2 lim : Int} {x : List Int} {M M1 : g_M} (h : c_Wr o buf n l2 lim x M) (hs : g_ext M M1) (hr : g_r M1 o 0 = g_r M o 0) (ho : ∀ k, g_i M1 o k = g_i M o k) (hb : ∀ k, l2 ≤ k → k < lim → g_i M1 buf k = g_i M buf k) : c_Wr o buf n l2 lim x M1 := by
  obtain ⟨⟨v1, v2, v3, v4⟩, v5, v6, v7⟩ := h
  refine ⟨⟨v1.up hs, by rw [hr]; exact v2, v3.up hs, v4⟩, v5, v6, ?_⟩
  unfold w_W at v7 ⊢
  rw [ho, ho, ho]
  refine ⟨v7.1, ?_⟩
  rcases v7.2 with ⟨a1, a2, a3, a4⟩ | g
  · exact Or.inl ⟨a1, a2, a3, b_at_keep a4 fun k k1 k2 => hb k k1 (by omega)⟩
  · exact Or.inr g
def J_4 (so b ou fr : Nat) (y : Nat) : Prop := y = so ∨ y = b ∨ y = ou ∨ y = fr
def J_2 (b ou : Nat) (y : Nat) : Prop := y = b ∨ y = ou
theorem J_2.up {so b ou fr y : Nat} (h : J_2 b ou y) : J_4 so b ou fr y := Or.inr (h.elim Or.inl fun z => Or.inr (Or.inl z))
/-- the class's objects for joining: its room, the other path, the other shelf -/
def J_T (so r b po pf pt tp tf tt ou sc be fr sv oa : Nat) (M : g_M) : Prop := S_T so b po pf pt ou sc be fr M ∧ g_r M so 0 = some r ∧ (g_r M so 3 = some tp ∧ p_P M tp tf tt ∧ (po ≠ tp ∧ pf ≠ tf ∧ pf ≠ tt ∧ pt ≠ tf ∧ pt ≠ tt)) ∧ (g_r M so 13 = some sv ∧ g_O M sv 8 ∧ g_r M sv 2 = some oa ∧ g_A M oa 1 200 ∧ oa ≠ be ∧ oa ≠ fr)
/-- the other shelf's documents -/
def J_os (b sv oa : Nat) (os : List (List b_E)) (M : g_M) : Prop := g_i M sv 6 = os.length ∧ S_ok os ∧ ∀ (i : Nat) (es : List b_E), os[i]? = some es → ∃ p, g_i M oa i = p ∧ b_st (g_i M b) 82808 p 16 3 [] (b_doc es)
def J_X (so r b ou fr : Nat) (lo : Int) (M0 M : g_M) : Prop := k_F (J_4 so b ou fr) r M0 M ∧ (∀ k, k ≠ 15 → k ≠ 16 → k ≠ 18 → g_i M so k = g_i M0 so k) ∧ (∀ y, J_4 so b ou fr y → ∀ k, g_r M y k = g_r M0 y k) ∧ ∀ k, ¬ (lo ≤ k ∧ k < lo + 40400) → g_i M b k = g_i M0 b k
section JX
variable {so r b po pf pt tp tf tt ou sc be fr sv oa : Nat} {M0 M M1 : g_M} {lo c e : Int} {L L1 : List Int}
theorem J_X.rf : J_X so r b ou fr lo M M := ⟨k_F.rf _ _ _, fun _ _ _ _ => rfl, fun _ _ _ => rfl, fun _ _ => rfl⟩
theorem J_X.tr (h : J_X so r b ou fr lo M0 M) (h2 : J_X so r b ou fr lo M M1) : J_X so r b ou fr lo M0 M1 := ⟨h.1.tr h2.1, fun k k1 k2 k3 => (h2.2.1 k k1 k2 k3).trans (h.2.1 k k1 k2 k3), fun y hy k => (h2.2.2.1 y hy k).trans (h.2.2.1 y hy k), fun k hk => (h2.2.2.2 k hk).trans (h.2.2.2 k hk)⟩
theorem J_4.nO {x ci : Nat} (hT : S_T so b po pf pt ou sc be fr M) (h : g_O M x ci) (hc : ci ≠ 9) (ho : x ≠ ou) : ¬ J_4 so b ou fr x := by
  obtain ⟨⟨s1, -, s3⟩, -, -, -, ⟨-, hfr, -⟩, -⟩ := hT
  rintro (z | z | z | z)
  · exact g_neOO h s1 hc z
  · exact g_neOA h s3 z
  · exact ho z
  · exact g_neOA h hfr z
theorem J_4.nA {x t : Nat} {n : Int} (hT : S_T so b po pf pt ou sc be fr M) (h : g_A M x t n) (hc : ¬ (t = 0 ∧ n = 246408)) (hf : x ≠ fr) : ¬ J_4 so b ou fr x := by
  obtain ⟨⟨s1, -, s3⟩, -, -, -, -, ⟨hou, -⟩, -⟩ := hT
  rintro (z | z | z | z)
  · exact g_neOA s1 h z.symm
  · exact g_neAA h s3 hc z
  · exact g_neOA hou h z.symm
  · exact hf z
theorem J_4.nr (hT : S_T so b po pf pt ou sc be fr M) (hP : k_P M r b c e L) : ¬ J_4 so b ou fr r ∧ ∀ (a : Nat) (n : Int), g_A M a 1 n → k_n n → ¬ J_4 so b ou fr a := by
  obtain ⟨-, -, -, -, ⟨-, hfr, -⟩, ⟨hou, -⟩, -⟩ := id hT
  refine ⟨J_4.nO hT hP.1 (by decide) (g_neOO hP.1 hou (by decide)), fun a n ha hn => J_4.nA hT ha (by omega) ?_⟩
  unfold k_n at hn
  exact g_neAA ha hfr (by omega)
/-- a path stays -/
theorem J_X.pO {o f t : Nat} (hT : S_T so b po pf pt ou sc be fr M0) (hP : k_P M0 r b c e L) (h : J_X so r b ou fr lo M0 M) (hp : p_P M0 o f t) : p_P M o f t ∧ (g_i M o = g_i M0 o ∧ g_r M o = g_r M0 o) ∧ g_i M f = g_i M0 f ∧ g_i M t = g_i M0 t := by
  obtain ⟨-, -, -, -, ⟨-, hfr, -⟩, ⟨hou, -⟩, -⟩ := id hT
  obtain ⟨o1, o2, o3, o4, o5, o6⟩ := hp
  have k := h.1
  obtain ⟨i1, r1⟩ := k.O hP o1 (by decide) (J_4.nO hT o1 (by decide) (g_neOO o1 hou (by decide)))
  have i2 := (k.A hP o4 (fun _ z => by unfold k_n at z; omega) (J_4.nA hT o4 (by omega) (g_neAA o4 hfr (by omega)))).1
  have i3 := (k.A hP o5 (fun _ z => by unfold k_n at z; omega) (J_4.nA hT o5 (by omega) (g_neAA o5 hfr (by omega)))).1
  exact ⟨⟨o1.up k.1, by rw [r1]; exact o2, by rw [r1]; exact o3, o4.up k.1, o5.up k.1, o6⟩, ⟨i1, r1⟩, i2, i3⟩
theorem J_X.T (hT : J_T so r b po pf pt tp tf tt ou sc be fr sv oa M0) (hP : k_P M0 r b c e L) (h : J_X so r b ou fr lo M0 M) : J_T so r b po pf pt tp tf tt ou sc be fr sv oa M := by
  obtain ⟨hS, t1, ⟨t2, t3, t4⟩, ⟨t5, t6, t7, t8, t9⟩⟩ := hT
  obtain ⟨⟨s1, s2, s3⟩, w2, hp0, ⟨w4, w5, w6, w7⟩, ⟨q1, q2, q3⟩, ⟨u1, u2⟩, ⟨v1, v2⟩, hne⟩ := id hS
  have hx := h.1.1
  have rs : ∀ k, g_r M so k = g_r M0 so k := fun k => h.2.2.1 so (Or.inl rfl) k
  have ro : ∀ k, g_r M ou k = g_r M0 ou k := fun k => h.2.2.1 ou (Or.inr (Or.inr (Or.inl rfl))) k
  have rc := (h.1.O hP v1 (by decide) (J_4.nO hS v1 (by decide) hne.symm)).2
  have rv := (h.1.O hP t6 (by decide) (J_4.nO hS t6 (by decide) (g_neOO t6 u1 (by decide)))).2
  refine ⟨⟨⟨s1.up hx, by rw [rs]; exact s2, s3.up hx⟩, by rw [rs]; exact w2, (h.pO hS hP hp0).1, ⟨by rw [rs]; exact w4, by rw [rs]; exact w5, by rw [rs]; exact w6, by rw [rs]; exact w7⟩, ⟨q1.up hx, q2.up hx, q3⟩, ⟨u1.up hx, by rw [ro]; exact u2⟩, ⟨v1.up hx, by rw [rc]; exact v2⟩, hne⟩, by rw [rs]; exact t1, ⟨by rw [rs]; exact t2, (h.pO hS hP t3).1, t4⟩, ⟨by rw [rs]; exact t5, t6.up hx, by rw [rv]; exact t7, t8.up hx, t9⟩⟩
/-- the pile alone -/
theorem J_X.k (hT : S_T so b po pf pt ou sc be fr M) (hP : k_P M r b c e L) (f : k_F k_0 r M M1) : J_X so r b ou fr lo M M1 := by
  obtain ⟨⟨s1, -, s3⟩, -, -, -, ⟨-, hfr, -⟩, ⟨hou, -⟩, -⟩ := id hT
  have is := f.O hP s1 (by decide) id
  have ib := f.A hP s3 (fun z => absurd z (by decide)) id
  have io := f.O hP hou (by decide) id
  have ir := f.A hP hfr (fun _ z => by unfold k_n at z; omega) id
  refine ⟨f.up0, fun k _ _ _ => by rw [is.1], fun y hy k => ?_, fun k _ => by rw [ib.1]⟩
  rcases hy with z | z | z | z
  · rw [z, is.2]
  · rw [z, ib.2]
  · rw [z, io.2]
  · rw [z, ir.2]
theorem c_Wr.kk {n l2 lim : Int} {x : List Int} (h : c_Wr ou b n l2 lim x M) (hP : k_P M r b c e L) (f : k_F k_0 r M M1) : c_Wr ou b n l2 lim x M1 := by
  have io := f.O hP h.1.1 (by decide) id
  have ib := f.A hP h.1.2.2.1 (fun z => absurd z (by decide)) id
  exact h.ku f.1 (by rw [io.2]) (fun k => by rw [io.1]) fun k _ _ => by rw [ib.1]
/-- writing -/
theorem J_X.w (hT : S_T so b po pf pt ou sc be fr M) (hP : k_P M r b c e L) (f : e_fr (c_WL ou b lo (lo + 40400)) M M1) : J_X so r b ou fr lo M M1 ∧ k_P M1 r b c e L ∧ k_F (J_2 b ou) r M M1 := by
  obtain ⟨a1, a2, a3, a4, a5, a6, a7, a8⟩ := hT.n1
  obtain ⟨b1, b2, b3, b4, b5, b6, b7⟩ := hT.n2
  have f2 : g_fr (J_2 b ou) M M1 := f.gs fun y k z => by
    rcases z with ⟨z, -⟩ | ⟨z, -⟩
    · exact Or.inr z
    · exact Or.inl z
  obtain ⟨n1, n2⟩ := J_4.nr hT hP
  have k2 : k_F (J_2 b ou) r M M1 := k_F.of f2 fun z => n1 z.up
  refine ⟨⟨k2.up fun y z => z.up, fun k _ _ _ => f.2.1 so k fun z => ?_, fun y _ k => f.2.2 y k, fun k hk => f.2.1 b k fun z => ?_⟩, hP.of f2 (fun z => n1 z.up) fun a n ha hn z => n2 a n ha hn z.up, k2⟩
  · rcases z with ⟨z, -⟩ | ⟨z, -⟩
    · exact a5 z
    · exact a1 z
  · rcases z with ⟨z, -⟩ | ⟨-, z⟩
    · exact b4 z
    · exact hk z
theorem J_X.s (hT : S_T so b po pf pt ou sc be fr M) (hP : k_P M r b c e L) (f : e_fr (S_FL so fr ou b lo) M M1) : J_X so r b ou fr lo M M1 ∧ k_P M1 r b c e L := by
  obtain ⟨a1, a2, a3, a4, a5, a6, a7, a8⟩ := hT.n1
  obtain ⟨b1, b2, b3, b4, b5, b6, b7⟩ := hT.n2
  have f2 : g_fr (J_4 so b ou fr) M M1 := f.gs fun y k z => by
    rcases z with ⟨z, -⟩ | z | ⟨z, -⟩ | ⟨z, -⟩
    · exact Or.inl z
    · exact Or.inr (Or.inr (Or.inr z))
    · exact Or.inr (Or.inr (Or.inl z))
    · exact Or.inr (Or.inl z)
  obtain ⟨n1, n2⟩ := J_4.nr hT hP
  refine ⟨⟨k_F.of f2 n1, fun k k1 k2 k3 => f.2.1 so k fun z => ?_, fun y _ k => f.2.2 y k, fun k hk => f.2.1 b k fun z => ?_⟩, hP.of f2 n1 n2⟩
  · rcases z with ⟨-, z⟩ | z | ⟨z, -⟩ | ⟨z, -⟩
    · omega
    · exact a8 z
    · exact a5 z
    · exact a1 z
  · rcases z with ⟨z, -⟩ | z | ⟨z, -⟩ | ⟨-, z⟩
    · exact a1 z.symm
    · exact b7 z
    · exact b4 z
    · exact hk z
theorem J_X.os {os : List (List b_E)} (hT : J_T so r b po pf pt tp tf tt ou sc be fr sv oa M0) (hP : k_P M0 r b c e L) (hlo : 82808 ≤ lo) (h : J_X so r b ou fr lo M0 M) (ho : J_os b sv oa os M0) : J_os b sv oa os M := by
  obtain ⟨hS, -, -, ⟨t5, t6, t7, t8, t9, t10⟩⟩ := hT
  obtain ⟨-, -, -, -, -, ⟨hou, -⟩, -⟩ := id hS
  obtain ⟨o1, o2, o3⟩ := ho
  have iv := (h.1.O hP t6 (by decide) (J_4.nO hS t6 (by decide) (g_neOO t6 hou (by decide)))).1
  have ia := (h.1.A hP t8 (fun _ z => by unfold k_n at z; omega) (J_4.nA hS t8 (by omega) t10)).1
  refine ⟨by rw [iv]; exact o1, o2, fun i es hi => ?_⟩
  obtain ⟨p, p1, p2⟩ := o3 i es hi
  have p5 := p2.2.2.2.2
  exact ⟨p, by rw [ia]; exact p1, ⟨b_at_keep p2.1 fun j j1 j2 => h.2.2.2 j (by omega), p2.2.1, p2.2.2.1, p2.2.2.2.1, p5⟩⟩
/-- a path can be gone -/
theorem J_X.W {o f t : Nat} {st : List (List Int)} (hT : J_T so r b po pf pt tp tf tt ou sc be fr sv oa M0) (hP : k_P M0 r b c e L) (hlo : 82808 ≤ lo) (h : J_X so r b ou fr lo M0 M) (hp : p_P M0 o f t) (ha : S_Pa (g_i M0 b) b o f t 0 st M0) : p_W M o f t b 246408 0 st := by
  obtain ⟨q1, ⟨q2, q3⟩, q4, q5⟩ := h.pO hT.1 hP hp
  obtain ⟨a1, a2, a3⟩ := ha
  refine ⟨q1, by rw [q3]; exact a1, hT.1.1.2.2.up h.1.1, by decide, by rw [q2]; exact a2, ?_⟩
  rw [q4, q5]
  exact a3.up (by decide) fun j j1 j2 => h.2.2.2 j (by omega)
end JX
