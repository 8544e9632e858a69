/-! FILTERS: the reference's leaves; it asks them -/
/-- what stays in the reference: all but some places -/
def e_fr (S : Nat → Int → Prop) (M M1 : g_M) : Prop := M1.1 = M.1 ∧ (∀ x k, ¬ S x k → g_i M1 x k = g_i M x k) ∧ ∀ x k, g_r M1 x k = g_r M x k
theorem e_fr.rf (S : Nat → Int → Prop) (M : g_M) : e_fr S M M := ⟨rfl, fun _ _ _ => rfl, fun _ _ => rfl⟩
theorem e_fr.tr {S : Nat → Int → Prop} {M M1 M2 : g_M} (h : e_fr S M M1) (h2 : e_fr S M1 M2) : e_fr S M M2 := ⟨h2.1.trans h.1, fun x k hx => (h2.2.1 x k hx).trans (h.2.1 x k hx), fun x k => (h2.2.2 x k).trans (h.2.2 x k)⟩
theorem e_fr.up {S T : Nat → Int → Prop} {M M1 : g_M} (h : e_fr S M M1) (hST : ∀ x k, S x k → T x k) : e_fr T M M1 := ⟨h.1, fun x k hx => h.2.1 x k fun hs => hx (hST x k hs), h.2.2⟩
theorem e_fr.wi {S : Nat → Int → Prop} {M : g_M} {a : Nat} {k : Int} (v : Int) (h : S a k) : e_fr S M (g_wi M a k v) := ⟨rfl, fun x j hx => if_neg (fun (e : x = a ∧ j = k) => hx (by rw [e.1, e.2]; exact h)), fun _ _ => rfl⟩
theorem e_fr.sh {S : Nat → Int → Prop} {M M1 : g_M} (h : e_fr S M M1) (x : Nat) : g_sh M1 x = g_sh M x := by
  unfold g_sh
  rw [h.1]
theorem e_fr.O {S : Nat → Int → Prop} {M M1 : g_M} (h : e_fr S M M1) {x c : Nat} (ho : g_O M x c) : g_O M1 x c := by
  unfold g_O
  rw [h.sh]
  exact ho
theorem e_fr.A {S : Nat → Int → Prop} {M M1 : g_M} (h : e_fr S M M1) {x t : Nat} {n : Int} (ho : g_A M x t n) : g_A M1 x t n := by
  unfold g_A
  rw [h.sh]
  exact ho
theorem e_fr.R {S : Nat → Int → Prop} {M M1 : g_M} (h : e_fr S M M1) {m b : Nat} (hR : e_R M m b) : e_R M1 m b := ⟨h.O hR.1, by rw [h.2.2]; exact hR.2.1, h.A hR.2.2⟩
def E_lf (m l : Nat) (x : Nat) (k : Int) : Prop := x = l ∨ (x = m ∧ k = 10)
/-- the reference m with bytes F, leaves L in the row l -/
def E_S (m b l : Nat) (F : Int → Int) (M : g_M) (L : List Int) : Prop := e_R M m b ∧ g_r M m 9 = some l ∧ g_A M l 1 80000 ∧ g_i M m 10 = L.length ∧ b_at (g_i M l) 0 L ∧ g_i M b = F ∧ L.length ≤ 80000
theorem E_S.ne {m b l : Nat} {F : Int → Int} {M : g_M} {L : List Int} (h : E_S m b l F M L) : l ≠ b ∧ l ≠ m ∧ m ≠ b := by
  obtain ⟨h1, h2, h3, -⟩ := h
  exact ⟨g_neAA h3 h1.2.2 (by omega), (g_neOA h1.1 h3).symm, g_neOA h1.1 h1.2.2⟩
theorem E_S.LF {m b l : Nat} {F : Int → Int} {M : g_M} {L : List Int} (h : E_S m b l F M L) : e_LF M m b l L.length := ⟨h.2.1, h.2.2.1, h.2.2.2.1, h.ne⟩
theorem E_S.get {m b l : Nat} {F : Int → Int} {M : g_M} {L : List Int} (h : E_S m b l F M L) {i : Nat} {v : Int} (hi : L[i]? = some v) : g_i M l i = v ∧ i < L.length := by
  have := h.2.2.2.2.1 i v hi
  rw [show (0 : Int) + (i : Int) = i by omega] at this
  exact ⟨this, (List.getElem?_eq_some_iff.mp hi).1⟩
theorem E_S.push {m b l : Nat} {F : Int → Int} {M : g_M} {L : List Int} (h : E_S m b l F M L) (v : Int) (hl : L.length < 80000) : E_S m b l F (e_al M m l L.length v) (L ++ [v]) ∧ e_fr (E_lf m l) M (e_al M m l L.length v) := by
  obtain ⟨n1, n2, n3⟩ := h.ne
  obtain ⟨h1, h2, h3, h4, h5, h6, h7⟩ := h
  refine ⟨⟨h1, h2, h3, ?_, ?_, ?_, ?_⟩, ?_⟩
  · unfold e_al
    rw [g_i_wi, if_pos ⟨rfl, rfl⟩, List.length_append, List.length_singleton]
    omega
  · refine b_app.mpr ⟨fun i w hw => ?_, b_cons.mpr ⟨?_, b_nil _ _⟩⟩
    · have := (List.getElem?_eq_some_iff.mp hw).1
      unfold e_al
      rw [g_i_wi, if_neg (fun z => n2 z.1), g_i_wi, if_neg (by omega)]
      exact h5 i w hw
    · unfold e_al
      rw [g_i_wi, if_neg (fun z => n2 z.1), g_i_wi, if_pos ⟨rfl, by omega⟩]
  · funext k
    unfold e_al
    rw [g_i_wi, if_neg (fun z => n3 z.1.symm), g_i_wi, if_neg (fun z => n1 z.1.symm), h6]
  · rw [List.length_append, List.length_singleton]
    omega
  · exact (e_fr.wi _ (Or.inl rfl)).tr (e_fr.wi _ (Or.inr ⟨rfl, rfl⟩))
theorem E_S.pushs {m b l : Nat} {F : Int → Int} : ∀ (vs : List Int) {M : g_M} {L : List Int}, E_S m b l F M L → L.length + vs.length ≤ 80000 → E_S m b l F (e_als m l M L.length vs) (L ++ vs) ∧ e_fr (E_lf m l) M (e_als m l M L.length vs) := by
  intro vs
  induction vs with
  | nil =>
    intro M L h _
    rw [List.append_nil]
    exact ⟨h, e_fr.rf _ _⟩
  | cons v vs ih =>
    intro M L h hl
    rw [List.length_cons] at hl
    obtain ⟨p1, p2⟩ := h.push v (by omega)
    obtain ⟨q1, q2⟩ := ih p1 (by rw [List.length_append, List.length_singleton]; omega)
    rw [List.append_assoc] at q1
    have e1 : (((L ++ [v]).length : Nat) : Int) = (L.length : Int) + 1 := by rw [List.length_append, List.length_singleton]; omega
    rw [e1] at q1 q2
    exact ⟨q1, p2.tr q2⟩
theorem E_S.cut {m b l : Nat} {F : Int → Int} {M : g_M} {L L1 : List Int} (h : E_S m b l F M (L ++ L1)) : E_S m b l F (g_wi M m 10 L.length) L ∧ e_fr (E_lf m l) M (g_wi M m 10 L.length) := by
  obtain ⟨n1, n2, n3⟩ := h.ne
  obtain ⟨h1, h2, h3, h4, h5, h6, h7⟩ := h
  rw [List.length_append] at h7
  refine ⟨⟨h1, h2, h3, ?_, ?_, ?_, by omega⟩, e_fr.wi _ (Or.inr ⟨rfl, rfl⟩)⟩
  · rw [g_i_wi, if_pos ⟨rfl, rfl⟩]
  · intro i w hw
    rw [g_i_wi, if_neg (fun z => n2 z.1)]
    exact (b_app.mp h5).1 i w hw
  · funext k
    rw [g_i_wi, if_neg (fun z => n3 z.1.symm), h6]
/-- a document where its value begins -/
def E_dc (F : Int → Int) (c : Int) (D : Nat) (de : b_E) : Prop := de.1 = 3 ∧ b_gv (D + 1) 3 de.2.2 ∧ e_tl F c (c + 4) D (b_ch de.2.2) (b_ch de.2.2)
theorem b_st.tl {B : Int → Int} {p k : Int} {D : Nat} {nm vb : List Int} (h : b_st B 2706210 p D k nm vb) (hk : k = 3 ∨ k = 4) : ∃ (D1 : Nat) (es : List b_E), D = D1 + 1 ∧ vb = b_doc es ∧ (∀ e ∈ es, b_okE e) ∧ e_tl B (p + 2 + nm.length) (p + 6 + nm.length) D1 es es ∧ b_ch vb = es ∧ (k = 4 → ∀ (i : Nat) (e : b_E), es[i]? = some e → e.2.1 = b_dg i) ∧ L_ch p (k, nm, vb) = L_at (p + 6 + nm.length) es ∧ 2 * es.length + 5 ≤ vb.length := by
  obtain ⟨D1, es, e1, e2, e3, e4, e5, e6, e7, e8⟩ := h.ch hk
  obtain ⟨v1, v2, v3, v4⟩ := h.val
  rw [e2] at v1 v2
  have := e_tl.start (D := D1) v1 e4.2.1 (by omega) v2
  rw [show p + 2 + (nm.length : Int) + 4 = p + 6 + nm.length by omega] at this
  exact ⟨D1, es, e1, e2, e3, this, e5, e6, e7, e8⟩
theorem b_st.dc {B : Int → Int} {p : Int} {D : Nat} {nm vb : List Int} (h : b_st B 2706210 p (D + 1) 3 nm vb) : E_dc B (p + 2 + nm.length) D (3, nm, vb) := by
  obtain ⟨D1, es, e1, e2, e3, e4, e5, e6, e7, e8⟩ := h.tl (Or.inl rfl)
  obtain rfl : D = D1 := by omega
  refine ⟨rfl, h.2.2.1, ?_⟩
  show e_tl B _ _ D (b_ch vb) (b_ch vb)
  rw [e5, show p + 2 + (nm.length : Int) + 4 = p + 6 + nm.length by omega]
  exact e4
theorem L_doc_room {F : Int → Int} {c : Int} {D : Nat} {de : b_E} {st : List (List Int)} (hD : D ≤ 17) (hs : E_dc F c D de) (h1 : 1 ≤ st.length) (h8 : st.length ≤ 8) : (L_doc D (L_at (c + 4) (b_ch de.2.2)) st).length + 1 ≤ L_W L_c1 (L_C (D + 1)) de ∧ 2 ≤ L_W L_c1 (L_C (D + 1)) de ∧ (L_doc D (L_at (c + 4) (b_ch de.2.2)) st).map L_nop = L_v (D + 1) de st ∧ ∀ y, some y ∈ L_doc D (L_at (c + 4) (b_ch de.2.2)) st → ∃ D1, D1 ≤ D ∧ b_st F 2706210 y.1 D1 y.2.1 y.2.2.1 y.2.2.2 ∧ y.2.2.2.length ≤ de.2.2.length ∧ (L_doc D (L_at (c + 4) (b_ch de.2.2)) st).length + 1 + L_W L_c1 (L_U D1) y.2 ≤ L_W L_c1 (L_C (D + 1)) de ∧ 2 + L_W L_c1 (L_U D1) y.2 ≤ L_W L_c1 (L_C (D + 1)) de := by
  obtain ⟨hk, hg, ht⟩ := hs
  rcases st with _ | ⟨s, r⟩
  · exact absurd h1 (by decide)
  have hgo : L_go (D + 1) (c - 2 - de.2.1.length) de (s :: r) = L_doc D (L_at (c + 4) (b_ch de.2.2)) (s :: r) := by
    rw [L_go3 hk]
    unfold L_ch
    rw [show c - 2 - (de.2.1.length : Int) + 6 + de.2.1.length = c + 4 by omega]
    rfl
  have hl := (L_v_len (D + 1) de (s :: r)).2 hk
  rw [← L_go_len (D + 1) (c - 2 - de.2.1.length) de (s :: r), hgo] at hl
  have hA : L_W L_c1 ((L_zp [2] (L_zp (L_t (s :: r).length).2 (0 :: L_U D))).take (D + 2)) de ≤ L_W L_c1 (L_C (D + 1)) de := L_W_le (L_CA ⟨D, by omega⟩ ⟨(s :: r).length, by omega⟩)
  rw [← L_W_take (D := D + 1) (by rw [hk]; exact hg), L_W_zp, L_W_zp] at hA
  have h2 : L_W L_c1 [2] de = 2 := by
    show L_c1 de * 2 + _ = 2
    have : ∀ es : List b_E, (es.map (L_W L_c1 [])).sum = 0 := by
      intro es
      induction es with
      | nil => rfl
      | cons y es ihy => rw [List.map_cons, List.sum_cons, ihy]; rfl
    rw [if_pos (Or.inl hk), this, show L_c1 de = 1 from if_pos (Or.inl hk)]
  refine ⟨by omega, by omega, by rw [← hgo]; exact L_go_v _ _ _ _, fun y hy => ?_⟩
  obtain ⟨D1, es, e1, e2, e3, e4, e5, e6, e7⟩ := b_gv_doc hg (Or.inl rfl)
  have hvb := congrArg List.length e2
  rw [b_doc_len] at hvb
  rw [e7] at ht hy
  have hy2 : some y ∈ (match L_find s (L_at (c + 4) es) with
    | none => [none]
    | some z => L_go D z.1 z.2 r) := hy
  rcases hf : L_find s (L_at (c + 4) es) with _ | z
  · rw [hf] at hy2
    exact absurd (List.mem_singleton.mp hy2) (by simp)
  · rw [hf] at hy2
    have hz := (L_find_mem hf).1
    have hz2 := L_at_st ht.2.2.2.1 z hz
    have hzv := L_at_vb hz
    obtain ⟨D2, g1, g2, g3⟩ := L_go_W D (by omega) hz2.1 y hy2
    have hv := (L_go_st D hz2.1 y hy2).2
    have h3 := L_W_ch (g := L_c1) (c := L_U D) (w := 0) (Or.inl hk) (x := z.2) (by rw [e7]; exact hz2.2)
    refine ⟨D2, g1, g2, by omega, ?_, by omega⟩
    rw [e7] at hl
    rw [e7]
    omega
section EHOLD
variable {d m b l : Nat} {F : Int → Int} {M : g_M} {L : List Int} {Q : Int → g_M → Prop}
theorem e_addLeafS {Q : g_M → Prop} {v : Int} (hS : E_S m b l F M L) (hv : g_InR v) (hl : L.length < 80000) (h : ∀ M1, e_fr (E_lf m l) M M1 → E_S m b l F M1 (L ++ [v]) → Q M1) : g_Call (d + 1) 277 [.ref m, g_n v] M (g_qV Q) :=
  e_addLeaf hS.1 hS.LF (by omega) (by omega) hv (h _ (hS.push v hl).2 (hS.push v hl).1)
theorem e_goDocS {Q : g_M → Prop} {dd D : Nat} {c p : Int} {x : List Int} {de : b_E} (hS : E_S m b l F M L) (hdc : E_dc F c D de) (hD : D ≤ 17) (hx : b_at F p x) (hp : 0 ≤ p) (hp1 : p + x.length < 2706200) (hdl : de.2.2.length ≤ 19000) (hk : L.length + (L_doc D (L_at (c + 4) (b_ch de.2.2)) (p_sp x)).length ≤ 80000) (hd : 50 ≤ dd) (h : ∀ M1, e_fr (E_lf m l) M M1 → E_S m b l F M1 (L ++ (L_doc D (L_at (c + 4) (b_ch de.2.2)) (p_sp x)).map L_opt) → Q M1) : g_Call dd 279 [.ref m, g_n c, g_n p, g_n (p + x.length)] M (g_qV Q) := by
  obtain ⟨hk3, hg, ht⟩ := hdc
  obtain ⟨D1, es, e1, e2, e3, e4, e5, e6, e7⟩ := b_gv_doc hg (Or.inl rfl)
  have hvb := congrArg List.length e2
  rw [b_doc_len] at hvb
  have hps := hS.pushs ((L_doc D (L_at (c + 4) (b_ch de.2.2)) (p_sp x)).map L_opt) (by rw [List.length_map]; exact hk)
  have hq := h _ hps.2 hps.1
  rw [e7] at ht hk hq
  have hSF := hS.2.2.2.2.2.1
  have hR := hS.1
  have hLF := hS.LF
  subst hSF
  obtain ⟨d, rfl⟩ : ∃ d, dd = d + 2 * D + 7 := ⟨dd - 2 * D - 7, by omega⟩
  refine e_goDoc (D := D) (d := d + 2 * D) hR hLF (by omega) ht hx rfl hp hp1 (by omega) (fun z q r hz hzs hrs h0 h1 hk2 hq2 => ?_) hq
  have hzv := L_at_vb hz
  exact e_go D hR hLF (by omega) hzs (by omega) hrs h0 h1 (by omega) hk2 hq2
theorem e_isSameS {p q : Int} {x v : b_E} {D : Nat} (hR : e_R M m b) (hx : b_st (g_i M b) 2706210 p D x.1 x.2.1 x.2.2) (hD : D ≤ 20) (hv : b_st (g_i M b) 2706210 q 20 v.1 v.2.1 v.2.2) (h : Q (if F_eq x v = true then 1 else 0) M) : g_Call (d + 46) 271 [.ref m, g_n p, g_n q] M (g_qI Q) := by
  refine m_X12_isSame (hx.R (by decide)) (hv.R (by decide)) fun _ => ⟨hR.1, e_compare hR 20 (F := 60) (d := d) (hx.le hD) hv (by decide) fun r hr _ _ _ => ⟨fun g => ?_, fun g => ?_⟩⟩
  · have : F_eq x v = true := decide_eq_true (hr.zero.mp g)
    rwa [this] at h
  · have : F_eq x v = false := decide_eq_false fun z => g (hr.zero.mpr z)
    rwa [this] at h
theorem e_kd {p k : Int} {D : Nat} {nm vb : List Int} (hR : e_R M m b) (hs : b_st (g_i M b) 2706210 p D k nm vb) {P : Int → Prop} (h : P k) : ∃ b2, g_r M m 0 = some b2 ∧ ∃ n4, g_A M b2 0 n4 ∧ ((0 : Int) ≤ p ∧ p < n4) ∧ P (g_i M b2 p) := by
  obtain ⟨v1, v2, v3, v4⟩ := hs.val
  exact ⟨b, hR.2.1, _, hR.2.2, ⟨by omega, by omega⟩, by rw [v4]; exact h⟩
theorem e_equals {pv : Int} {v : b_E} {fr : Nat} {ls : List (Option (Int × b_E))} (hS : E_S m b l F M L) (hv : b_st F 2706210 pv 20 v.1 v.2.1 v.2.2) (hw : F_w F 2706210 L fr ls) (hb : fr + ls.length ≤ 80000) (h : Q (if F_eqs v (ls.map L_nop) = true then 1 else 0) M) : g_Call (d + 47) 298 [.ref m, g_n pv, g_n fr, g_n ((fr : Int) + ls.length)] M (g_qI Q) := by
  have hS0 := hS
  obtain ⟨hR, L1, L2, L3, L4, hF, L5⟩ := hS
  subst hF
  have hpv := hv.R (by decide)
  have h3 : ∀ (ls : List (Option (Int × b_E))) (f : Nat) (to f0 : Int), g_InR f0 → F_w (g_i M b) 2706210 L f ls → to = f + ls.length → f + ls.length ≤ 80000 → Q (if F_eqs v (ls.map L_nop) = true then 1 else 0) M → g_Run (d + 46) 298 3 [(0, .ref m), (1, g_n pv), (2, g_n f0), (3, g_n to), (4, g_n f)] [] M (g_qI Q) := by
    intro ls
    induction ls with
    | nil =>
      intro f to f0 hf0 hw hto hb h
      rw [List.length_nil] at hto hb
      exact s_X12_equals_3 hpv hf0 ⟨by omega, by omega⟩ ⟨by omega, by omega⟩ fun _ => ⟨fun g => absurd g (by omega), fun _ => h⟩
    | cons z ls ih =>
      intro f to f0 hf0 hw hto hb h
      rw [List.length_cons] at hto hb
      obtain ⟨w1, w2⟩ := hw.cons
      obtain ⟨g1, g2⟩ := hS0.get w1
      have hi : Q (if F_eqs v (ls.map L_nop) = true then 1 else 0) M → g_Run (d + 46) 298 3 [(0, .ref m), (1, g_n pv), (2, g_n f0), (3, g_n to), (4, g_n ((f : Int) + 1))] [] M (g_qI Q) := by
        intro hq2
        have := ih (f + 1) to f0 hf0 w2 (by omega) (by omega) hq2
        rwa [show ((f + 1 : Nat) : Int) = (f : Int) + 1 by omega] at this
      refine s_X12_equals_3 hpv hf0 ⟨by omega, by omega⟩ ⟨by omega, by omega⟩ fun _ => ⟨fun _ => ⟨hR.1, l, L1, _, L2, ⟨by omega, by omega⟩, ?_⟩, fun g => absurd (by omega) g⟩
      rw [g1]
      rcases z with _ | y
      · have hc : F_eqs v ((none :: ls).map L_nop) = ((v.1 == 10) || F_eqs v (ls.map L_nop)) := rfl
        rw [hc] at h
        refine ⟨fun _ => e_kd hR hv (P := fun z => (z = 10 → Q 1 M) ∧ (¬ z = 10 → _)) ⟨fun g => ?_, fun g => ⟨⟨by omega, by omega⟩, hi ?_⟩⟩, fun g => absurd rfl g⟩
        · rwa [show (v.1 == 10) = true by simpa using g, Bool.true_or] at h
        · rwa [show (v.1 == 10) = false by simpa using g, Bool.false_or] at h
      · obtain ⟨y1, y2⟩ := hw.2 y List.mem_cons_self
        have hy0 := y1.2.2.2.1
        have hc : F_eqs v ((some y :: ls).map L_nop) = ((F_eq y.2 v || (F_its y.2).any fun x => F_eq x v) || F_eqs v (ls.map L_nop)) := rfl
        rw [hc] at h
        refine ⟨fun g => absurd (show y.1 = -1 from g) (by omega), fun _ => e_isSameS (d := d) hR y1 (by decide) hv fun _ _ _ => ?_⟩
        show (_ → _) ∧ _
        cases he : F_eq y.2 v
        · rw [he, Bool.false_or] at h
          refine ⟨fun _ => e_kd hR y1 (P := fun z => (z = 4 → _) ∧ (¬ z = 4 → _)) ⟨fun g4 => ?_, fun g4 => ⟨⟨by omega, by omega⟩, hi ?_⟩⟩, fun g => absurd rfl g⟩
          · obtain ⟨D1, es, e1, e2, e3, e4, e5, e6, e7, e8⟩ := y1.tl (Or.inr g4)
            have hits : F_its y.2 = es := by
              unfold F_its F_it
              rw [if_pos g4]
              exact e5
            rw [hits] at h
            have hyR := y1.R (by decide)
            have hl71 : ∀ (fs : List b_E) (q : Int), e_tl (g_i M b) (y.1 + 2 + y.2.2.1.length) q D1 es fs → Q (if ((fs.any fun x => F_eq x v) || F_eqs v (ls.map L_nop)) = true then 1 else 0) M → g_Run (d + 46) 298 71 [(0, .ref m), (1, g_n pv), (2, g_n f0), (3, g_n to), (4, g_n f), (5, g_n y.1), (6, g_n q)] [] M (g_qI Q) := by
              intro fs
              induction fs with
              | nil =>
                intro q s1 h
                have hq := s1.st
                exact s_X12_equals_71 hpv hf0 ⟨by omega, by omega⟩ ⟨by omega, by omega⟩ hyR ⟨by omega, by omega⟩ fun _ => ⟨hR.1, e_vl2 hR y1 fun _ _ _ => e_lastE hR s1 fun _ _ _ => ⟨fun g => absurd g (by omega), fun _ => ⟨⟨by omega, by omega⟩, hi h⟩⟩⟩
              | cons x fs ihf =>
                intro q s1 h
                have hq := s1.st
                obtain ⟨t1, t2⟩ := s1.cons
                have hca : ((x :: fs).any fun x => F_eq x v) = (F_eq x v || fs.any fun x => F_eq x v) := rfl
                rw [hca] at h
                refine s_X12_equals_71 hpv hf0 ⟨by omega, by omega⟩ ⟨by omega, by omega⟩ hyR ⟨by omega, by omega⟩ fun _ => ⟨hR.1, e_vl2 hR y1 fun _ _ _ => e_lastC hR s1 fun r hr1 hr2 => fun _ _ _ => ⟨fun _ => e_isSameS (d := d) hR t1 (by omega) hv fun _ _ _ => ?_, fun g => absurd (by omega) g⟩⟩
                cases he : F_eq x v
                · rw [he, Bool.false_or] at h
                  exact ⟨fun _ => e_bh2 hR t1 fun _ _ _ => ihf _ t2 h, fun g => absurd rfl g⟩
                · rw [he, Bool.true_or, Bool.true_or] at h
                  exact ⟨fun g => absurd g (by decide), fun _ => h⟩
            have h9 := hl71 es _ e4 h
            rw [show y.1 + 6 + (y.2.2.1.length : Int) = y.1 + 2 + y.2.2.1.length + 4 by omega] at h9
            exact e_vl2 hR y1 fun _ _ _ => e_first e4.st.2.2.1 e4.st.2.2.2 fun _ _ _ => h9
          · have hits : F_its y.2 = [] := if_neg g4
            rw [hits] at h
            exact h
        · rw [he, Bool.true_or, Bool.true_or] at h
          exact ⟨fun g => absurd g (by decide), fun _ => h⟩
  exact m_X12_equals hpv ⟨by omega, by omega⟩ ⟨by omega, by omega⟩ fun _ => h3 ls fr _ _ ⟨by omega, by omega⟩ hw rfl hb h
end EHOLD
