/-! CHANGES: the class finds their faults -/
def Y_nm (es : List b_E) : List (List Int) := es.map fun e => e.2.1
noncomputable def Y_all (cs : List b_E) : List (List Int) := cs.flatMap fun e => Y_nm (b_ch e.2.2)
noncomputable def Y_ok (x : List Int) : Bool := @decide (p_ok x) (Classical.propDecidable _)
theorem Y_ok_iff {x : List Int} : Y_ok x = true ↔ p_ok x := @decide_eq_true_iff _ (Classical.propDecidable _)
/-- the paths of an operator: (fault, place) -/
noncomputable def Y_ps (op : Int) : List (List Int) → List (Int × b_E) → Int × Int
  | _, [] => (0, 0)
  | pre, z :: r => if Y_ok z.2.2.1 = true then (if op = 3 ∧ ¬ (z.2.1 = 16 ∨ z.2.1 = 18) then (4, z.1) else if (pre.any fun x => X_bg x z.2.2.1) = true then (5, z.1) else Y_ps op (pre ++ [z.2.2.1]) r) else (3, z.1)
/-- the operators -/
noncomputable def Y_os : List (List Int) → List (Int × b_E) → Int × Int
  | _, [] => (0, 0)
  | pre, z :: r => if X_op z.2.2.1 = 0 then (1, z.1) else if z.2.1 = 3 then (if (Y_ps (X_op z.2.2.1) pre (L_ch z.1 z.2)).1 = 0 then Y_os (pre ++ Y_nm (b_ch z.2.2.2)) r else Y_ps (X_op z.2.2.1) pre (L_ch z.1 z.2)) else (2, z.1)
theorem b_sts.app {B : Int → Int} {n : Int} {D : Nat} : ∀ {l r : List b_E} {q : Int}, b_sts B n q D (l ++ r) → b_sts B n (q + (b_ser l).length) D r := by
  intro l
  induction l with
  | nil =>
    intro r q h
    show b_sts B n (q + ((0 : Nat) : Int)) D r
    rw [show q + ((0 : Nat) : Int) = q by omega]
    exact h
  | cons e l ih =>
    intro r q h
    have h1 := ih (b_sts.cons (e := e) (es := l ++ r) h).2
    rw [b_ser_len, show q + (((b_el e.1 e.2.1 e.2.2).length + (b_ser l).length : Nat) : Int) = q + (b_el e.1 e.2.1 e.2.2).length + (b_ser l).length by omega]
    exact h1
theorem b_st.kids {B : Int → Int} {n q : Int} {D : Nat} {e : b_E} (h : b_st B n q D e.1 e.2.1 e.2.2) (hk : e.1 = 3 ∨ e.1 = 4) : ∃ D1, D = D1 + 1 ∧ b_sts B n (q + 6 + e.2.1.length) D1 (b_ch e.2.2) ∧ e.2.2.length = (b_ser (b_ch e.2.2)).length + 5 := by
  obtain ⟨D1, es, e1, e2, e3, e4, e5, e6, e7⟩ := b_gv_doc h.2.2.1 hk
  rw [e7]
  have h1 := h.1
  have h5 := h.2.2.2.2
  rw [e2] at h1 h5
  exact ⟨D1, e1, b_st.sts h1 e5 h.2.2.2.1 h5, by rw [e2, b_doc_len]⟩
def X_GF (o po pf pt : Nat) (y : Nat) : Prop := y = o ∨ p_S po pf pt y
def Y_post (o b po pf pt ch wo : Nat) (M : g_M) (Q : Int → g_M → Prop) (R : Int × Int) : Prop := ∀ M1, g_fr (X_GF o po pf pt) M M1 → X_O o b po pf pt ch wo M1 → g_i M1 b = g_i M b → (∀ k, k ≠ 7 → k ≠ 8 → g_i M1 o k = g_i M o k) → (R.1 ≠ 0 → g_i M1 o 7 = R.1 ∧ g_i M1 o 8 = R.2) → Q (if R.1 = 0 then 1 else 0) M1
section RIGHT
variable {d o b po pf pt ch wo : Nat} {F : Int → Int} {M M1 : g_M} {c : List h_F} {e p : b_E} {es l t mid mid2 : List b_E} {Q : Int → g_M → Prop}
theorem Y_post.tr {R : Int × Int} (h : Y_post o b po pf pt ch wo M Q R) (f : g_fr (X_GF o po pf pt) M M1) (hb : g_i M1 b = g_i M b) (ho : ∀ k, k ≠ 7 → k ≠ 8 → g_i M1 o k = g_i M o k) : Y_post o b po pf pt ch wo M1 Q R := fun M2 f2 h1 h2 h3 h4 => h M2 (f.tr f2) h1 (h2.trans hb) (fun k k1 k2 => (h3 k k1 k2).trans (ho k k1 k2)) h4
theorem c_failsC {w q : Int} (hO : X_O o b po pf pt ch wo M) (hw : g_InR w) (hw0 : w ≠ 0) (hq : g_InR q) (h : Y_post o b po pf pt ch wo M Q (w, q)) : g_Call (d + 1) 19 [.ref o, g_n w, g_n q] M (g_qI fun r M1 => g_ext M M1 → g_ok M1 → g_InR r → (r = 0 ∨ r = 1) ∧ Q r M1) := by
  obtain ⟨⟨o1, o2, o3, o4, o5⟩, hP, och, ob, ow, owb⟩ := id hO
  have hb : o ≠ b := g_neOA o1 ob
  refine m_X1_fails hw hq fun _ => ⟨o1, ?_⟩
  rintro M2 rfl _ M6 rfl _
  intro _ _ _
  refine ⟨Or.inl rfl, ?_⟩
  have fe : e_fr (fun y k => y = o ∧ (k = 7 ∨ k = 8)) M (g_wi (g_wi M o 7 w) o 8 q) := (e_fr.wi _ ⟨rfl, Or.inl rfl⟩).tr (e_fr.wi _ ⟨rfl, Or.inr rfl⟩)
  have := h (g_wi (g_wi M o 7 w) o 8 q) ((g_fr.wi _ _ (Or.inl rfl)).tr (g_fr.wi _ _ (Or.inl rfl))) (hO.fr fe) (funext fun k => fe.2.1 b k fun z => hb z.1.symm) (fun k k1 k2 => fe.2.1 o k fun z => z.2.elim k1 k2) fun _ => ⟨?_, ?_⟩
  · rwa [if_neg hw0] at this
  · rw [g_i_wi, if_neg (by omega), g_i_wi, if_pos ⟨rfl, rfl⟩]
  · rw [g_i_wi, if_pos ⟨rfl, rfl⟩]
theorem c_clashes {pc : Int} {D : Nat} {ce z y : b_E} {cs1 cs2 ys1 ys2 : List b_E} (hg : g_ok M) (hO : X_O o b po pf pt ch wo M) (hs : b_st (g_i M b) 246408 pc D ce.1 ce.2.1 ce.2.2) (hk : ce.1 = 3) (hl : ce.2.2.length ≤ 3000) (hcs : b_ch ce.2.2 = cs1 ++ z :: cs2) (hk3 : ∀ e ∈ cs1, e.1 = 3) (hz3 : z.1 = 3) (hys : b_ch z.2.2 = ys1 ++ y :: ys2) (h : Q (if ((Y_all cs1 ++ Y_nm ys1).any fun x => X_bg x y.2.1) = true then 1 else 0) M) : g_Call (d + 6) 21 [.ref o, g_n pc, g_n ((pc : Int) + 6 + ce.2.1.length + (b_ser cs1).length + 6 + z.2.1.length + (b_ser ys1).length)] M (g_qI Q) := by
  obtain ⟨⟨o1, o2, o3, o4, o5⟩, hP, och, ob, ow, owb⟩ := id hO
  obtain ⟨D1, eD, hsts, hlen⟩ := hs.kids (Or.inl hk)
  rw [hcs] at hsts hlen
  have hsR := hs.R (by decide)
  have hbl := b_ser_app cs1 (z :: cs2)
  have hcl := congrArg List.length hbl
  rw [List.length_append, b_ser_len] at hcl
  have hmany := b_ser_many (cs1 ++ z :: cs2)
  have hzst := (hsts.app).cons.1
  obtain ⟨D2, eD2, hysts, hylen⟩ := hzst.kids (Or.inl hz3)
  rw [hys] at hysts hylen
  have hyl := congrArg List.length (b_ser_app ys1 (y :: ys2))
  rw [List.length_append, b_ser_len] at hyl
  have hzl := b_el_len z.1 z.2.1 z.2.2
  have hyy := hysts.app.cons.1
  have hyyR := hyy.R (by decide)
  have hpY : ∃ pY : Int, pY = (pc : Int) + 6 + ce.2.1.length + (b_ser cs1).length + 6 + z.2.1.length + (b_ser ys1).length := ⟨_, rfl⟩
  obtain ⟨pY, hpY⟩ := hpY
  have hyym := b_ser_many (ys1 ++ y :: ys2)
  rw [← hpY] at hyy hyyR ⊢
  rw [List.length_append, List.length_cons] at hmany hyym
  have hin : ∀ (fs tl : List b_E) (D' : Nat) (q qo : Int) (i k : Nat), b_sts (g_i M b) 246408 q D' (fs ++ tl) → q + (b_ser fs).length ≤ pY → k + fs.length < 2000 → g_InR qo → i < 2000 → ((fs.any fun x => X_bg x.2.1 y.2.1) = true → Q 1 M) → ((fs.any fun x => X_bg x.2.1 y.2.1) = false → g_Run (d + 5) 21 49 [(0, .ref o), (1, g_n pc), (2, g_n pY), (3, g_n qo), (4, g_n i), (5, g_n (q + (b_ser fs).length)), (6, g_n ((k : Int) + fs.length))] [] M (g_qI Q)) → g_Run (d + 5) 21 49 [(0, .ref o), (1, g_n pc), (2, g_n pY), (3, g_n qo), (4, g_n i), (5, g_n q), (6, g_n k)] [] M (g_qI Q) := by
    intro fs
    induction fs with
    | nil =>
      intro tl D' q qo i k h1 h2 h3 h4 h5 h6 h7
      have := h7 rfl
      rwa [show q + ((b_ser []).length : Int) = q from by show q + ((0 : Nat) : Int) = q; omega, show (k : Int) + (([] : List b_E).length : Int) = k from by show (k : Int) + ((0 : Nat) : Int) = k; omega] at this
    | cons f fs ih =>
      intro tl D' q qo i k h1 h2 h3 h4 h5 h6 h7
      obtain ⟨hf, hr⟩ := b_sts.cons (e := f) (es := fs ++ tl) h1
      rw [List.length_cons] at h3
      have hsl := b_ser_len f fs
      have hfl := b_el_len f.1 f.2.1 f.2.2
      have hfR := hf.R (by decide)
      have hfk := b_vs_pos (b_gv_vs hf.2.2.1)
      have hf5 := hf.2.2.2.2
      have hf4 := hf.2.2.2.1
      refine s_X1_clashes_49 hsR hyyR h4 ⟨by omega, by omega⟩ hfR ⟨by omega, by omega⟩ fun _ => ⟨fun _ => ⟨o1, b, o2, c_kd2 ob (by decide) hf fun _ _ _ => ⟨fun g => absurd g (by omega), fun _ => ⟨fun _ => c_begins hg hO hf hyy ?_, fun g => absurd (by omega) g⟩⟩⟩, fun g => absurd (by omega) g⟩
      intro _ _ _
      by_cases hb : X_bg f.2.1 y.2.1 = true
      · rw [if_pos hb]
        exact ⟨fun g => absurd g (by decide), fun _ => h6 (by rw [List.any_cons, hb]; rfl)⟩
      · rw [if_neg hb]
        have hb2 : X_bg f.2.1 y.2.1 = false := by simpa using hb
        refine ⟨fun _ => ⟨b, o2, c_nx2 ob (by decide) hf fun _ _ _ => ⟨⟨by omega, by omega⟩, ?_⟩⟩, fun g => absurd rfl g⟩
        refine ih tl D' (q + (b_el f.1 f.2.1 f.2.2).length) qo i (k + 1) hr (by omega) (by omega) h4 h5 (fun g => h6 (by rw [List.any_cons, g, Bool.or_true])) fun g => ?_
        have := h7 (by rw [List.any_cons, g, hb2]; rfl)
        rwa [List.length_cons, show q + ((b_ser (f :: fs)).length : Int) = q + (b_el f.1 f.2.1 f.2.2).length + (b_ser fs).length by omega, show (k : Int) + ((fs.length + 1 : Nat) : Int) = ((k + 1 : Nat) : Int) + fs.length by omega] at this
  have hout : ∀ (c1 : List b_E) (q : Int) (i : Nat), b_sts (g_i M b) 246408 q D1 (c1 ++ z :: cs2) → (∀ e ∈ c1, e.1 = 3) → pY = q + (b_ser c1).length + 6 + z.2.1.length + (b_ser ys1).length → i + c1.length + cs2.length + 1 < 2000 → (b_ser c1).length ≤ 3000 → Q (if ((Y_all c1 ++ Y_nm ys1).any fun x => X_bg x y.2.1) = true then 1 else 0) M → g_Run (d + 5) 21 12 [(0, .ref o), (1, g_n pc), (2, g_n pY), (3, g_n q), (4, g_n i)] [] M (g_qI Q) := by
    intro c1
    induction c1 with
    | nil =>
      intro q i h1 h2 h3 h4 h5 h6
      obtain ⟨hz, hr⟩ := b_sts.cons (e := z) (es := cs2) h1
      have hzR := hz.R (by decide)
      have hb0 : ((b_ser []).length : Int) = 0 := rfl
      rw [hb0] at h3
      rw [List.length_nil] at h4
      obtain ⟨D3, eD3, hk1, -⟩ := hz.kids (Or.inl hz3)
      rw [hys] at hk1
      have hz5 := hz.2.2.2.2
      have hz4 := hz.2.2.2.1
      have hend : ¬ (((Y_nm ys1).any fun x => X_bg x y.2.1) = true) → g_Run (d + 5) 21 12 [(0, .ref o), (1, g_n pc), (2, g_n pY), (3, g_n (q + (b_el z.1 z.2.1 z.2.2).length)), (4, g_n ((i : Int) + 1))] [] M (g_qI Q) := by
        intro hno
        have h60 : Q 0 M := by
          have hY : Y_all [] ++ Y_nm ys1 = Y_nm ys1 := rfl
          rw [hY, if_neg hno] at h6
          exact h6
        have hqR : g_InR (q + (b_el z.1 z.2.1 z.2.2).length) := ⟨by omega, by omega⟩
        rcases cs2 with _ | ⟨f, cs2⟩
        · exact s_X1_clashes_12 hsR hyyR hqR ⟨by omega, by omega⟩ fun _ => ⟨fun _ => ⟨o1, b, o2, c_kdE ob (by decide) hr fun _ _ _ => ⟨fun _ => h60, fun g => absurd rfl g⟩⟩, fun g => absurd (by omega) g⟩
        · have hf := hr.cons.1
          have hfk := b_vs_pos (b_gv_vs hf.2.2.1)
          rw [List.length_cons] at h4
          exact s_X1_clashes_12 hsR hyyR hqR ⟨by omega, by omega⟩ fun _ => ⟨fun _ => ⟨o1, b, o2, c_kd2 ob (by decide) hf fun _ _ _ => ⟨fun g => absurd g (by omega), fun _ => ⟨fun g => absurd g (by omega), fun _ => h60⟩⟩⟩, fun g => absurd (by omega) g⟩
      have hmap : ∀ fs : List b_E, ((Y_nm fs).any fun x => X_bg x y.2.1) = fs.any fun x => X_bg x.2.1 y.2.1 := fun fs => by
        unfold Y_nm
        rw [List.any_map]
        rfl
      refine s_X1_clashes_12 hsR hyyR hzR ⟨by omega, by omega⟩ fun _ => ⟨fun _ => ⟨o1, b, o2, c_kd2 ob (by decide) hz fun _ _ _ => ⟨fun g => absurd g (by omega), fun _ => ⟨fun _ => ⟨b, o2, c_fi2 ob (by decide) hz fun _ _ _ => ?_⟩, fun g => absurd (by omega) g⟩⟩⟩, fun g => absurd (by omega) g⟩
      refine hin ys1 (y :: ys2) D3 (q + 6 + z.2.1.length) q i 0 hk1 (by omega) (by omega) hzR (by omega) (fun g => ?_) fun g => ?_
      · have hY : Y_all [] ++ Y_nm ys1 = Y_nm ys1 := rfl
        rwa [hY, hmap, if_pos g] at h6
      · have hy2 := hk1.app.cons.1
        have hy2R := hy2.R (by decide)
        have hyk := b_vs_pos (b_gv_vs hy2.2.2.1)
        refine s_X1_clashes_49 hsR hyyR hzR ⟨by omega, by omega⟩ hy2R ⟨by omega, by omega⟩ fun _ => ⟨fun _ => ⟨o1, b, o2, c_kd2 ob (by decide) hy2 fun _ _ _ => ⟨fun g => absurd g (by omega), fun _ => ⟨fun g => absurd g (by omega), fun _ => ⟨b, o2, c_nx2 ob (by decide) hz fun _ _ _ => ⟨⟨by omega, by omega⟩, hend ?_⟩⟩⟩⟩⟩, fun g => absurd (by omega) g⟩
        rw [hmap, g]
        decide
    | cons f c1 ih =>
      intro q i h1 h2 h3 h4 h5 h6
      obtain ⟨hf, hr⟩ := b_sts.cons (e := f) (es := c1 ++ z :: cs2) h1
      have hfR := hf.R (by decide)
      have hf3 := h2 f List.mem_cons_self
      have hsl := b_ser_len f c1
      have hfl := b_el_len f.1 f.2.1 f.2.2
      rw [List.length_cons] at h4
      obtain ⟨D3, eD3, hk1, hkl⟩ := hf.kids (Or.inl hf3)
      have hf5 := hf.2.2.2.2
      have hf4 := hf.2.2.2.1
      have hkm := b_ser_many (b_ch f.2.2)
      have hmap : ∀ fs : List b_E, ((Y_nm fs).any fun x => X_bg x y.2.1) = fs.any fun x => X_bg x.2.1 y.2.1 := fun fs => by
        unfold Y_nm
        rw [List.any_map]
        rfl
      have hYa : Y_all (f :: c1) ++ Y_nm ys1 = Y_nm (b_ch f.2.2) ++ (Y_all c1 ++ Y_nm ys1) := by
        unfold Y_all
        rw [List.flatMap_cons, List.append_assoc]
      rw [hYa, List.any_append, hmap (b_ch f.2.2)] at h6
      refine s_X1_clashes_12 hsR hyyR hfR ⟨by omega, by omega⟩ fun _ => ⟨fun _ => ⟨o1, b, o2, c_kd2 ob (by decide) hf fun _ _ _ => ⟨fun g => absurd g (by omega), fun _ => ⟨fun _ => ⟨b, o2, c_fi2 ob (by decide) hf fun _ _ _ => ?_⟩, fun g => absurd (by omega) g⟩⟩⟩, fun g => absurd (by omega) g⟩
      refine hin (b_ch f.2.2) [] D3 (q + 6 + f.2.1.length) q i 0 (by rw [List.append_nil]; exact hk1) (by omega) (by omega) hfR (by omega) (fun g => ?_) fun g => ?_
      · rw [g, Bool.true_or, if_pos rfl] at h6
        exact h6
      · rw [g, Bool.false_or] at h6
        have hk2 := hk1
        rw [← List.append_nil (b_ch f.2.2)] at hk2
        have hk3 := hk2.app
        have hkR : g_InR (q + 6 + f.2.1.length + (b_ser (b_ch f.2.2)).length) := ⟨by omega, by omega⟩
        refine s_X1_clashes_49 hsR hyyR hfR ⟨by omega, by omega⟩ hkR ⟨by omega, by omega⟩ fun _ => ⟨fun _ => ⟨o1, b, o2, c_kdE ob (by decide) hk3 fun _ _ _ => ⟨fun _ => ⟨b, o2, c_nx2 ob (by decide) hf fun _ _ _ => ⟨⟨by omega, by omega⟩, ?_⟩⟩, fun g => absurd rfl g⟩⟩, fun g => absurd (by omega) g⟩
        exact ih _ (i + 1) hr (fun e he => h2 e (List.mem_cons_of_mem _ he)) (by omega) (by omega) (by omega) h6
  refine m_X1_clashes hsR hyyR fun _ => ⟨o1, b, o2, c_fi2 ob (by decide) hs fun _ _ _ => ?_⟩
  exact hout cs1 _ 0 hsts hk3 hpY (by omega) (by omega) h
end RIGHT
