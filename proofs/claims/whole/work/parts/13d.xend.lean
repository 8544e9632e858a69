/-! CHANGES: what the class does at a path's end -/
def X_CL (o b ch wo : Nat) (y : Nat) (k : Int) : Prop := (y = o ∧ (k = 4 ∨ k = 5 ∨ k = 6)) ∨ (y = wo ∧ (k = 1 ∨ k = 2 ∨ k = 3)) ∨ (y = b ∧ 163608 ≤ k) ∨ y = ch
theorem X_SL.cl {o b ch wo : Nat} {M M1 : g_M} (h : e_fr (X_SL o b wo) M M1) : e_fr (X_CL o b ch wo) M M1 := h.up fun y k hy => by
  rcases hy with ⟨h1, h2⟩ | h | h
  · exact Or.inl ⟨h1, Or.inr h2⟩
  · exact Or.inr (Or.inl h)
  · exact Or.inr (Or.inr (Or.inl h))
/-- below the place of work all is F; around a hole of h bytes stand the documents c, which are linked -/
def X_Sh (F : Int → Int) (o b po pf pt ch wo : Nat) (c : List h_F) (h : Nat) (M : g_M) : Prop := X_O o b po pf pt ch wo M ∧ (∀ k, k < 163608 → g_i M b k = F k) ∧ h_ok c ∧ c.length ≤ 10 ∧ h_Z (g_i M b) h 163608 c ∧ g_i M o 5 = 163608 + h_hs h c ∧ g_i M o 4 = c.length ∧ b_at (g_i M ch) 0 (h_ch 163608 c)
def X_St (F : Int → Int) (o b po pf pt ch wo : Nat) (c : List h_F) (e : b_E) (M : g_M) : Prop := X_Sh F o b po pf pt ch wo c (b_el e.1 e.2.1 e.2.2).length M ∧ b_at (g_i M b) (h_at 163608 c) (b_el e.1 e.2.1 e.2.2)
def X_Pa (F : Int → Int) (b po pf pt s : Nat) (st : List (List Int)) (M : g_M) : Prop := g_r M po 0 = some b ∧ g_i M po 3 = s + st.length ∧ p_rb F (g_i M pf) (g_i M pt) 100000 s st
def X_post (o b ch wo : Nat) (c : List h_F) (e : b_E) (es : List b_E) (M : g_M) (Q : Int → g_M → Prop) (R : Int × List b_E) : Prop := ∀ M1, e_fr (X_CL o b ch wo) M M1 → (R.1 = 0 → h_Z (g_i M1 b) (b_el e.1 e.2.1 (b_doc R.2)).length 163608 c ∧ b_at (g_i M1 b) (h_at 163608 c) (b_el e.1 e.2.1 (b_doc R.2)) ∧ g_i M1 o 5 = 163608 + h_hs (b_el e.1 e.2.1 (b_doc R.2)).length c ∧ g_i M1 o 6 = if R.2 = es then g_i M o 6 else 1) → Q R.1 M1
section CHG
variable {d o b po pf pt ch wo : Nat} {F : Int → Int} {M M1 : g_M} {c : List h_F} {e : b_E} {es l t mid mid2 : List b_E} {Q : Int → g_M → Prop}
theorem X_leaf {R : Int × List b_E} (h : X_post o b ch wo c e es M Q R) (hR1 : R.1 = 0) (hR2 : R.2 = l ++ mid2 ++ t) (hes : es = l ++ mid ++ t) (f : e_fr (X_CL o b ch wo) M M1) (hZ : h_Z (g_i M1 b) (b_ser mid2).length 163608 (c ++ [(e.1, e.2.1, l, t)])) (hb : b_at (g_i M1 b) (h_at 163608 (c ++ [(e.1, e.2.1, l, t)])) (b_ser mid2)) (h5 : g_i M1 o 5 = 163608 + h_hs (b_ser mid2).length (c ++ [(e.1, e.2.1, l, t)])) (h6 : g_i M1 o 6 = if mid2 = mid then g_i M o 6 else 1) : Q 0 M1 := by
  have h1 := h M1 f fun _ => ?_
  · rwa [hR1] at h1
  · rw [hR2]
    obtain ⟨a1, a2⟩ := (h_in (B := g_i M1 b) (c := c) (f := (e.1, e.2.1, l, t)) (p := 163608) (mid := mid2)).mpr ⟨hZ, hb⟩
    refine ⟨a1, a2, ?_, ?_⟩
    · rw [h5, h_hs_snoc, h_hs_one]
    · rw [h6, hes]
      by_cases g : mid2 = mid
      · rw [if_pos g, if_pos (by rw [g])]
      · rw [if_neg g, if_neg fun z => g (by simpa using z)]
theorem X_O.cl (h : X_O o b po pf pt ch wo M) (f : e_fr (X_CL o b ch wo) M M1) : X_O o b po pf pt ch wo M1 := h.fr f
theorem X_F (h : X_O o b po pf pt ch wo M) (hF : ∀ k, k < 163608 → g_i M b k = F k) (f : e_fr (X_CL o b ch wo) M M1) : ∀ k, k < 163608 → g_i M1 b k = F k := fun k hk => by
  obtain ⟨n1, n2, n3, n4, n5, n6⟩ := h.ne
  rw [f.2.1 b k (fun z => by
    rcases z with ⟨z, -⟩ | ⟨z, -⟩ | ⟨-, z⟩ | z
    · exact n1 z.symm
    · exact n3 z.symm
    · omega
    · exact n4 z.symm)]
  exact hF k hk
theorem X_Pa.cl {s : Nat} {st : List (List Int)} (h : X_Pa F b po pf pt s st M) (hO : X_O o b po pf pt ch wo M) (f : e_fr (X_CL o b ch wo) M M1) : X_Pa F b po pf pt s st M1 := by
  obtain ⟨⟨o1, o2, o3, o4, o5⟩, ⟨p1, p2, p3, p4, p5, p6⟩, och, ob, ow, owb⟩ := hO
  obtain ⟨h1, h2, h3⟩ := h
  have hk : ∀ y, y ≠ o → y ≠ wo → y ≠ b → y ≠ ch → ∀ k, g_i M1 y k = g_i M y k := fun y y1 y2 y3 y4 k => f.2.1 y k fun z => by
    rcases z with ⟨z, -⟩ | ⟨z, -⟩ | ⟨z, -⟩ | z
    · exact y1 z
    · exact y2 z
    · exact y3 z
    · exact y4 z
  have e1 := hk po (g_neOO p1 o1 (by decide)) (g_neOO p1 ow (by decide)) (g_neOA p1 ob) (g_neOA p1 och)
  have e2 := funext (hk pf (g_neOA o1 p4).symm (g_neOA ow p4).symm (g_neAA p4 ob (by omega)) (g_neAA p4 och (by omega)))
  have e3 := funext (hk pt (g_neOA o1 p5).symm (g_neOA ow p5).symm (g_neAA p5 ob (by omega)) (g_neAA p5 och (by omega)))
  exact ⟨by rw [f.2.2]; exact h1, by rw [e1]; exact h2, by rw [e2, e3]; exact h3⟩
theorem b_st.of {B : Int → Int} {p k : Int} {D : Nat} {nm vb : List Int} (h : b_st F 100000 p D k nm vb) (hF : ∀ k, k < 163608 → B k = F k) : b_st B 246408 p D k nm vb := by
  obtain ⟨h1, h2, h3, h4, h5⟩ := h
  exact ⟨b_at_keep h1 fun k k1 k2 => hF k (by omega), h2, h3, h4, by omega⟩
theorem X_St.st {D : Nat} (h : X_St F o b po pf pt ch wo c e M) (h1 : b_nz e.2.1) (h2 : b_gv D e.1 e.2.2) (hm : (h_hs (b_el e.1 e.2.1 e.2.2).length c : Int) ≤ 80000) : b_st (g_i M b) 246408 (h_at 163608 c) D e.1 e.2.1 e.2.2 := by
  have := h_at_in (b_el e.1 e.2.1 e.2.2).length c 163608
  have := h_at_ge c 163608
  exact ⟨h.2, h1, h2, by omega, by omega⟩
/-- behind the others of the innermost one -/
theorem c_behind {f : h_F} {D : Nat} (hO : X_O o b po pf pt ch wo M) (hln : g_i M o 4 = (c ++ [f]).length) (hlen : c.length ≤ 9) (hch : b_at (g_i M ch) 0 (h_ch 163608 (c ++ [f]))) (hs : b_st (g_i M b) 246408 (h_at 163608 c) D e.1 e.2.1 e.2.2) (hes : e.2.2 = b_doc es) (hsz : (b_ser es).length ≤ 80000) (hq : Q (h_at 163608 (c ++ [(e.1, e.2.1, es, [])])) M) : g_Call (d + 2) 27 [.ref o] M (g_qI Q) := by
  obtain ⟨⟨o1, o2, o3, o4, o5⟩, hP, och, ob, ow, owb⟩ := hO
  have hl := h_ch_len c 163608
  rw [List.length_append, List.length_singleton] at hln
  rw [h_ch_snoc] at hch
  obtain ⟨c1, c2⟩ := b_app.mp hch
  have c3 := (b_cons.mp c2).1
  rw [hl] at c3
  obtain ⟨v1, v2, v3, v4⟩ := hs.val
  rw [hes] at v1 v2
  rw [b_doc_len] at v2
  obtain ⟨w1, w2, w3⟩ := b_doc_at v1
  have hat : h_at 163608 (c ++ [(e.1, e.2.1, es, [])]) = h_at 163608 c + 6 + e.2.1.length + (b_ser es).length := by
    rw [h_at_snoc]
    rfl
  rw [hat] at hq
  refine m_X1_behindOthers fun _ => ⟨o1, b, o2, fun _ => ⟨ch, o4, ⟨by omega, by omega⟩, _, och, ⟨by omega, by omega⟩, ?_⟩, fun g => absurd g (by omega)⟩
  rw [show g_i M o 4 - 1 = 0 + (c.length : Int) by omega, c3]
  refine s_X1_behindOthers_27 (hs.R (by decide)) fun _ => c_va2 ob (by decide) hs fun _ _ _ => ⟨o1, b, o2, c_w4 ob ⟨by decide, by decide⟩ (by omega) (by omega) fun _ _ _ => ?_⟩
  rw [b_w4_le4 (by omega) (by omega) w1]
  refine ⟨⟨by omega, by omega⟩, ⟨by omega, by omega⟩, ?_⟩
  rwa [show h_at 163608 c + 2 + (e.2.1.length : Int) + ((b_ser es).length + 5) - 1 = h_at 163608 c + 6 + e.2.1.length + (b_ser es).length by omega]
/-- an element comes behind the others: the hole is there -/
theorem X_Sh.cl {h : Nat} (hS : X_Sh F o b po pf pt ch wo c h M) (f : e_fr (X_SL o b wo) M M1) {h2 : Nat} (hZ : h_Z (g_i M1 b) h2 163608 c) (h5 : g_i M1 o 5 = 163608 + h_hs h2 c) : X_Sh F o b po pf pt ch wo c h2 M1 := by
  obtain ⟨hO, hF, h1, h2', h3, h4, h6, h7⟩ := hS
  obtain ⟨n1, n2, n3, n4, n5, n6⟩ := hO.ne
  refine ⟨hO.fr f, X_F (ch := ch) hO hF (X_SL.cl f), h1, h2', hZ, h5, ?_, ?_⟩
  · rw [f.2.1 o 4 (fun z => by
      rcases z with ⟨-, z⟩ | ⟨z, -⟩ | ⟨z, -⟩
      · omega
      · exact n2 z
      · exact n1 z)]
    exact h6
  · refine b_at_keep h7 fun k _ _ => f.2.1 ch k fun z => ?_
    rcases z with ⟨z, -⟩ | ⟨z, -⟩ | ⟨z, -⟩
    · exact n5 z
    · exact n6 z
    · exact n4 z
/-- what was written in the hole is what stands there -/
theorem c_Wr.hole {a : Int} {x : List Int} (h : c_Wr wo b 246408 a (a + x.length) x M) : b_at (g_i M b) a x := by
  rcases h.2.2.2.2 with ⟨a1, a2, a3, a4⟩ | ⟨a1, a2, a3, a4⟩
  · exact a4
  · omega
/-- writing in the hole -/
theorem X_Sh.wr {h : Nat} (hS : X_Sh F o b po pf pt ch wo c h M) (f : e_fr (c_WL wo b (h_at 163608 c) (h_at 163608 c + h)) M M1) : X_Sh F o b po pf pt ch wo c h M1 ∧ e_fr (X_SL o b wo) M M1 := by
  have hS0 := hS
  obtain ⟨hO, hF, h1, h2', h3, h4, h6, h7⟩ := hS
  obtain ⟨n1, n2, n3, n4, n5, n6⟩ := hO.ne
  have hge := h_at_ge c 163608
  have f2 : e_fr (X_SL o b wo) M M1 := f.up fun y k hy => by
    rcases hy with ⟨y1, y2⟩ | ⟨y1, y2, y3⟩
    · exact Or.inr (Or.inl ⟨y1, by omega⟩)
    · exact Or.inr (Or.inr ⟨y1, by omega⟩)
  refine ⟨hS0.cl f2 (h_Z_keep c 163608 h3 fun k k1 k2 k3 => f.2.1 b k fun z => ?_) ?_, f2⟩
  · rcases z with ⟨z, -⟩ | ⟨-, z1, z2⟩
    · exact n3 z.symm
    · exact k3 ⟨z1, z2⟩
  · rw [f.2.1 o 5 (fun z => by
      rcases z with ⟨z, -⟩ | ⟨z, -⟩
      · exact n2 z
      · exact n1 z)]
    exact h4
end CHG
