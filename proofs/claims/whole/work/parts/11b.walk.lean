/-! LEAVES: the class goes a path -/
theorem L_find_app {x : List Int} : ∀ (es1 : List b_E) (e : b_E) (es2 : List b_E) (q : Int), (∀ f ∈ es1, f.2.1 ≠ x) → e.2.1 = x → L_find x (L_at q (es1 ++ e :: es2)) = some (q + (b_ser es1).length, e) := by
  intro es1
  induction es1 with
  | nil =>
    intro e es2 q _ he
    show (if e.2.1 = x then some (q, e) else _) = some (q + ((0 : Nat) : Int), e)
    rw [if_pos he, show q + ((0 : Nat) : Int) = q by omega]
  | cons g es1 ih =>
    intro e es2 q hf he
    show (if g.2.1 = x then _ else L_find x (L_at (q + (b_el g.1 g.2.1 g.2.2).length) (es1 ++ e :: es2))) = _
    rw [if_neg (hf g List.mem_cons_self), ih e es2 _ (fun f hf2 => hf f (List.mem_cons_of_mem _ hf2)) he, b_ser_len]
    rw [show q + ((b_el g.1 g.2.1 g.2.2).length : Int) + (b_ser es1).length = q + (((b_el g.1 g.2.1 g.2.2).length + (b_ser es1).length : Nat) : Int) by omega]
theorem L_find_none {x : List Int} : ∀ (es : List b_E) (q : Int), (∀ f ∈ es, f.2.1 ≠ x) → L_find x (L_at q es) = none := by
  intro es
  induction es with
  | nil => exact fun _ _ => rfl
  | cons g es ih =>
    intro q hf
    show (if g.2.1 = x then _ else L_find x (L_at (q + (b_el g.1 g.2.1 g.2.2).length) es)) = _
    rw [if_neg (hf g List.mem_cons_self), ih _ (fun f hf2 => hf f (List.mem_cons_of_mem _ hf2))]
theorem b_kd_neg (B : Int → Int) (n : Int) : b_kd B n (-1) = 0 := if_pos (by decide)
theorem L_go3 {D : Nat} {o : Int} {e : b_E} {s : List Int} {r : List (List Int)} (h : e.1 = 3) : L_go (D + 1) o e (s :: r) = (match L_find s (L_ch o e) with
      | none => [none]
      | some z => L_go D z.1 z.2 r) := if_pos h
theorem L_go4 {D : Nat} {o : Int} {e : b_E} {s : List Int} {r : List (List Int)} (h : e.1 = 4) : L_go (D + 1) o e (s :: r) = (match L_find s (L_ch o e) with
      | none => []
      | some z => L_go D z.1 z.2 r) ++ (L_ch o e).flatMap (fun z => if z.2.1 = 3 then L_go D z.1 z.2 (s :: r) else []) := by
  show (if e.1 = 3 then _ else if e.1 = 4 then _ else _) = _
  rw [if_neg (by omega), if_pos h]
  rfl
theorem L_gox {D : Nat} {o : Int} {e : b_E} {s : List Int} {r : List (List Int)} (h : e.1 ≠ 3) (h2 : e.1 ≠ 4) : L_go D o e (s :: r) = [none] := by
  cases D with
  | zero => rfl
  | succ D =>
    show (if e.1 = 3 then _ else if e.1 = 4 then _ else _) = _
    rw [if_neg h, if_neg h2]
/-- the elements of a document or row that stands somewhere -/
theorem b_st.ch {B : Int → Int} {n p k : Int} {D : Nat} {nm vb : List Int} (h : b_st B n p D k nm vb) (hk : k = 3 ∨ k = 4) : ∃ (D1 : Nat) (es : List b_E), D = D1 + 1 ∧ vb = b_doc es ∧ (∀ e ∈ es, b_okE e) ∧ b_sts B n (p + 6 + nm.length) D1 es ∧ b_ch vb = es ∧ (k = 4 → ∀ (i : Nat) (e : b_E), es[i]? = some e → e.2.1 = b_dg i) ∧ L_ch p (k, nm, vb) = L_at (p + 6 + nm.length) es ∧ 2 * es.length + 5 ≤ vb.length := by
  obtain ⟨D1, es, e1, e2, e3, e4, e5, e6, e7⟩ := b_gv_doc h.2.2.1 hk
  have hm := b_ser_many es
  refine ⟨D1, es, e1, e2, e4, ?_, e7, e6, ?_, ?_⟩
  · have h1 := h.1
    have h9 := h.2.2.2.2
    rw [e2] at h1 h9
    exact b_st.sts h1 e5 h.2.2.2.1 h9
  · unfold L_ch
    rw [e7]
  · rw [e2, b_doc_len]
    omega
section FIND2
variable {d D a a2 : Nat} {M : g_M} {Q : Int → g_M → Prop} {n n2 p p2 k : Int} {nm vb x : List Int}
theorem c_find2 (hA : g_A M a 0 n) (hn : n ≤ 1000000000) (hA2 : g_A M a2 0 n2) (hn2 : n2 ≤ 1000000000) (hx : b_at (g_i M a2) p2 x) (h0 : 0 ≤ p2) (h1 : p2 + x.length ≤ n2) (hs : b_st (g_i M a) n p D k nm vb) (hk : k = 3 ∨ k = 4) (hvb : vb.length ≤ 190000) (h : Q (L_opt (L_find x (L_ch p (k, nm, vb)))) M) : g_Call (d + 3) 114 [.ref a, g_n p, .ref a2, g_n p2, g_n (p2 + x.length)] M (g_qI Q) := by
  obtain ⟨D1, es, e1, e2, e3, e4, e5, e6, e7, e8⟩ := hs.ch hk
  rw [e7] at h
  obtain ⟨s1, s2, s3, s4, s5⟩ := hs
  subst e2
  refine c_find hA hn hA2 hn2 hx h0 h1 s1 s2 e3 s4 s5 (by omega) (fun es1 e es2 f1 f2 f3 => ?_) (fun f1 => ?_)
  · rw [f1, L_find_app es1 e es2 _ f3 f2] at h
    exact h
  · rw [L_find_none es _ f1] at h
    exact h
theorem c_fi2 (hA : g_A M a 0 n) (hn : n ≤ 1000000000) (hs : b_st (g_i M a) n p D k nm vb) (h : Q (p + 6 + nm.length) M) : g_Call (d + 1) 112 [.ref a, g_n p] M (g_qI Q) := by
  have hl := hA.len
  refine c_first hA ⟨by omega, by omega⟩ hs.nm hn ?_
  rwa [show p + 1 + (nm.length : Int) + 5 = p + 6 + nm.length by omega]
end FIND2
/-- a path's steps in the class: where they stand -/
def p_rb (F A B : Int → Int) (n2 : Int) : Nat → List (List Int) → Prop
  | _, [] => True
  | k, x :: r => 0 ≤ A k ∧ B k = A k + x.length ∧ B k ≤ n2 ∧ b_at F (A k) x ∧ p_rb F A B n2 (k + 1) r
theorem p_rb_of {F A B : Int → Int} {n2 : Int} : ∀ (l : Nat) {x : List Int} {k : Nat} {p : Int}, x.length ≤ l → b_at F p x → p_rg A B k p (p_sp x) → 0 ≤ p → p + x.length ≤ n2 → p_rb F A B n2 k (p_sp x) := by
  intro l
  induction l with
  | zero =>
    intro x k p hl hx hr h0 h1
    have : x = [] := List.eq_nil_of_length_eq_zero (by omega)
    subst this
    obtain ⟨r1, r2, -⟩ := hr
    rw [List.length_nil] at h1
    exact ⟨by omega, by omega, by omega, b_nil _ _, trivial⟩
  | succ l ih =>
    intro x k p hl hx hr h0 h1
    rcases p_hd_tl x with ⟨h2, h3⟩ | ⟨y, h2, h3⟩
    · rw [p_sp_none h2, h3] at hr ⊢
      obtain ⟨r1, r2, -⟩ := hr
      exact ⟨by omega, by omega, by omega, by rw [r1]; exact hx, trivial⟩
    · rw [p_sp_some h2] at hr ⊢
      have hlen := congrArg List.length h3
      rw [List.length_append, List.length_cons] at hlen
      rw [h3] at hx
      obtain ⟨x1, x2⟩ := b_app.mp hx
      obtain ⟨r1, r2, r3⟩ := hr
      exact ⟨by omega, by omega, by omega, by rw [r1]; exact x1, ih (by omega) (b_cons.mp x2).2 r3 (by omega) (by omega)⟩
def p_W (M : g_M) (o f t a : Nat) (n2 : Int) (s : Nat) (st : List (List Int)) : Prop := p_P M o f t ∧ g_r M o 0 = some a ∧ g_A M a 0 n2 ∧ n2 ≤ 1000000000 ∧ g_i M o 3 = s + st.length ∧ p_rb (g_i M a) (g_i M f) (g_i M t) n2 s st
theorem p_W.of {M : g_M} {o f t a : Nat} {n2 p : Int} {x : List Int} (hP : p_P M o f t) (hA : g_A M a 0 n2) (hn : n2 ≤ 1000000000) (h : p_is M o f t a p x) (hx : b_at (g_i M a) p x) (h0 : 0 ≤ p) (h1 : p + x.length ≤ n2) : p_W M o f t a n2 0 (p_sp x) :=
  ⟨hP, h.1, hA, hn, by rw [h.2.1]; omega, p_rb_of _ (Nat.le_refl _) hx h.2.2.2 h0 h1⟩
theorem p_W.go {M : g_M} {o f t a : Nat} {n2 : Int} {s : Nat} {x : List Int} {r : List (List Int)} (h : p_W M o f t a n2 s (x :: r)) : p_W M o f t a n2 (s + 1) r := by
  obtain ⟨h1, h2, h3, h4, h5, h6⟩ := h
  rw [List.length_cons] at h5
  exact ⟨h1, h2, h3, h4, by omega, h6.2.2.2.2⟩
theorem p_W.fr {M M1 : g_M} {r b : Nat} {c e : Int} {L : List Int} (hP : k_P M r b c e L) (hF : k_F k_0 r M M1) {o f t a : Nat} {n2 : Int} {s : Nat} {st : List (List Int)} (h : p_W M o f t a n2 s st) : p_W M1 o f t a n2 s st := by
  obtain ⟨⟨o1, o2, o3, o4, o5, o6⟩, h2, h3, h4, h5, h6⟩ := h
  obtain ⟨i1, r1⟩ := hF.O hP o1 (by decide) id
  obtain ⟨i2, -⟩ := hF.A hP o4 (by unfold k_n; omega) id
  obtain ⟨i3, -⟩ := hF.A hP o5 (by unfold k_n; omega) id
  obtain ⟨i4, -⟩ := hF.A hP h3 (fun g => absurd g (by decide)) id
  refine ⟨⟨o1.up hF.1, by rw [r1]; exact o2, by rw [r1]; exact o3, o4.up hF.1, o5.up hF.1, o6⟩, by rw [r1]; exact h2, h3.up hF.1, h4, by rw [i1]; exact h5, ?_⟩
  rw [i2, i3, i4]
  exact h6
section WALK
variable {r b o f t a : Nat} {c e n n2 : Int}
theorem c_walk : ∀ (D : Nat) {d : Nat} {M : g_M} {Q : g_M → Prop} {z : Int × b_E} {st : List (List Int)} {s : Nat} {lv : Int} {L : List Int}, k_P M r b c e L → g_A M b 0 n → n ≤ 1000000000 → p_W M o f t a n2 s st → b_st (g_i M b) n z.1 D z.2.1 z.2.2.1 z.2.2.2 → z.2.2.2.length ≤ 190000 → s + st.length ≤ 8 → 0 ≤ lv → lv + D ≤ 60 → L.length + (L_go D z.1 z.2 st).length ≤ 32000 → (∀ M1, k_F k_0 r M M1 → k_P M1 r b c e (L ++ (L_go D z.1 z.2 st).map L_opt) → Q M1) → g_Call (d + D + 4) 94 [.ref o, .ref r, g_n z.1, g_n s, g_n lv] M (g_qV Q) := by
  intro D
  induction D using Nat.strongRecOn with
  | ind D ih =>
    intro d M Q z st s lv L hP hA hn hW hs hvb hst hl0 hl1 hk h
    obtain ⟨v1, v2, v3, v4⟩ := hs.val
    have hn0 := hA.len
    have hz : g_InR z.1 := ⟨by omega, by omega⟩
    obtain ⟨⟨o1, o2, o3, o4, o5, o6⟩, w2, w3, w4, w5, w6⟩ := id hW
    rcases st with _ | ⟨x, st⟩
    · rw [L_go_nil] at h hk
      rw [List.length_nil] at w5
      refine m_X5_walk hz ⟨by omega, by omega⟩ ⟨by omega, by omega⟩ fun _ => ⟨o1, fun g => absurd g (by omega), fun _ => ⟨hP.1, ?_⟩⟩
      exact c_push (d := d + D + 1) hP hz (by rw [List.length_singleton] at hk; omega) fun M1 f1 p1 => fun _ _ => h M1 f1 p1
    · rw [List.length_cons] at w5 hst
      have hend : ∀ (M1 : g_M) (k w w8 : Int), g_InR k → g_InR w → g_InR w8 → k_F k_0 r M M1 → Q M1 → g_Run (d + D + 3) 94 141 [(0, .ref o), (1, .ref r), (2, g_n z.1), (3, g_n s), (4, g_n lv), (5, .ref b), (6, g_n k), (7, g_n w), (8, g_n w8), (9, g_n (-1)), (10, g_n 0)] [] M1 (g_qV Q) := by
        intro M1 k w w8 r1 r2 r3 f1 hq
        refine s_X5_walk_141 hz ⟨by omega, by omega⟩ ⟨by omega, by omega⟩ r1 r2 r3 ⟨by decide, by decide⟩ ⟨by decide, by decide⟩ fun _ => ⟨fun _ => c_kind (hA.up f1.1) ⟨by omega, by omega⟩ ⟨by decide, by decide⟩ fun _ _ _ => ?_, fun g => absurd (by decide) g⟩
        rw [b_kd_neg]
        exact ⟨fun _ => hq, fun g => absurd rfl g⟩
      refine m_X5_walk (d := d + D + 3) hz ⟨by omega, by omega⟩ ⟨by omega, by omega⟩ fun _ => ⟨o1, fun _ => ⟨fun g => absurd g (by omega), fun _ => ⟨hP.1, b, hP.2.1, c_kd2 hA hn hs fun _ _ _ => ?_⟩⟩, fun g => absurd (by omega) g⟩
      have hkR : g_InR z.2.1 := by
        have := b_vs_pos (b_gv_vs hs.2.2.1)
        exact ⟨by omega, by omega⟩
      by_cases hk34 : z.2.1 = 3 ∨ z.2.1 = 4
      · obtain ⟨D1, es, e1, e2, e3, e4, e5, e6, e7, e8⟩ := hs.ch hk34
        subst e1
        obtain ⟨q0, q1, q2, q3, q4⟩ := w6
        -- the items of a row, one by one
        have hloop : ∀ (w w8 : Int), g_InR w → g_InR w8 → ∀ (fs : List b_E) (q : Int) (i : Nat) (M1 : g_M) (L1 : List Int), b_sts (g_i M b) n q D1 fs → (∀ g ∈ fs, g.2.2.length ≤ 190000) → i + fs.length < 100000 → k_F k_0 r M M1 → k_P M1 r b c e L1 → L1.length + ((L_at q fs).flatMap (fun z => if z.2.1 = 3 then L_go D1 z.1 z.2 (x :: st) else [])).length ≤ 32000 → (∀ M2, k_F k_0 r M M2 → k_P M2 r b c e (L1 ++ ((L_at q fs).flatMap (fun z => if z.2.1 = 3 then L_go D1 z.1 z.2 (x :: st) else [])).map L_opt) → Q M2) → g_Run (d + (D1 + 1) + 3) 94 141 [(0, .ref o), (1, .ref r), (2, g_n z.1), (3, g_n s), (4, g_n lv), (5, .ref b), (6, g_n z.2.1), (7, g_n w), (8, g_n w8), (9, g_n q), (10, g_n i)] [] M1 (g_qV Q) := by
          intro w w8 rw8 rw9 fs
          induction fs with
          | nil =>
            intro q i M1 L1 hst1 _ hi f1 p1 hk1 hq
            obtain ⟨b1, -⟩ := f1.A hP hA (fun g => absurd g (by decide)) id
            have hq0 := hst1.2.2
            refine s_X5_walk_141 hz ⟨by omega, by omega⟩ ⟨by omega, by omega⟩ hkR rw8 rw9 ⟨by omega, by omega⟩ (by rw [List.length_nil] at hi; exact ⟨by omega, by omega⟩) fun _ => ⟨fun _ => c_kdE (hA.up f1.1) hn (by rw [b1]; exact hst1) fun _ _ _ => ⟨fun _ => hq M1 f1 ?_, fun g => absurd rfl g⟩, fun g => absurd (by rw [List.length_nil] at hi; omega) g⟩
            have : L1 ++ (((L_at q []).flatMap (fun z => if z.2.1 = 3 then L_go D1 z.1 z.2 (x :: st) else [])).map L_opt) = L1 := List.append_nil L1
            rw [this]
            exact p1
          | cons g fs ihf =>
            intro q i M1 L1 hst1 hvs hi f1 p1 hk1 hq
            rw [List.length_cons] at hi
            obtain ⟨b1, -⟩ := f1.A hP hA (fun g => absurd g (by decide)) id
            obtain ⟨s1, s2⟩ := hst1.cons
            have hgk := b_vs_pos (b_gv_vs s1.2.2.1)
            have hg0 := s1.2.2.2
            have s11 : b_st (g_i M1 b) n q D1 g.1 g.2.1 g.2.2 := by rw [b1]; exact s1
            have hfm : (L_at q (g :: fs)).flatMap (fun z => if z.2.1 = 3 then L_go D1 z.1 z.2 (x :: st) else []) = (if g.1 = 3 then L_go D1 q g (x :: st) else []) ++ (L_at (q + (b_el g.1 g.2.1 g.2.2).length) fs).flatMap (fun z => if z.2.1 = 3 then L_go D1 z.1 z.2 (x :: st) else []) := rfl
            rw [hfm] at hk1 hq
            rw [List.length_append] at hk1
            have hs20 := s2.2.2
            refine s_X5_walk_141 hz ⟨by omega, by omega⟩ ⟨by omega, by omega⟩ hkR rw8 rw9 ⟨by omega, by omega⟩ ⟨by omega, by omega⟩ fun _ => ⟨fun _ => c_kd2 (hA.up f1.1) hn s11 fun _ _ _ => ⟨fun g0 => absurd g0 (by omega), fun _ => c_kd2 (hA.up f1.1) hn s11 fun _ _ _ => ⟨fun g3 => ⟨⟨by omega, by omega⟩, o1.up f1.1, ?_⟩, fun g3 => c_nx2 (hA.up f1.1) hn s11 fun _ _ _ => ⟨⟨by omega, by omega⟩, ?_⟩⟩⟩, fun g0 => absurd (by omega) g0⟩
            · rw [if_pos g3] at hk1 hq
              have h8 := ih D1 (by omega) (d := d) (M := M1) (z := (q, g)) (st := x :: st) (s := s) (lv := lv + 1) p1 (hA.up f1.1) hn (hW.fr hP f1) s11 (hvs g List.mem_cons_self) (by rw [List.length_cons]; omega) (by omega) (by omega) (by simp only; omega) (Q := fun M19 => g_ext M1 M19 → g_ok M19 → g_Call (d + D1 + 4) 111 [.ref b, g_n q] M19 (g_qI fun r25 M22 => g_ext M19 M22 → g_ok M22 → g_InR r25 → g_InR ((i : Int) + 1) ∧ g_Run (d + D1 + 4) 94 141 [(0, .ref o), (1, .ref r), (2, g_n z.1), (3, g_n s), (4, g_n lv), (5, .ref b), (6, g_n z.2.1), (7, g_n w), (8, g_n w8), (9, g_n r25), (10, g_n ((i : Int) + 1))] [] M22 (g_qV Q))) (fun M2 f2 p2 _ _ => ?_)
              · exact h8
              · have f3 := f1.tr f2
                obtain ⟨b2, -⟩ := f3.A hP hA (fun g => absurd g (by decide)) id
                refine c_nx2 (hA.up f3.1) hn (by rw [b2]; exact s1) fun _ _ _ => ⟨⟨by omega, by omega⟩, ?_⟩
                have h9 := ihf (q + (b_el g.1 g.2.1 g.2.2).length) (i + 1) M2 (L1 ++ (L_go D1 q g (x :: st)).map L_opt) s2 (fun y hy => hvs y (List.mem_cons_of_mem _ hy)) (by omega) f3 p2 (by rw [List.length_append, List.length_map]; omega) (fun M3 f4 p3 => hq M3 f4 (by rw [List.map_append, ← List.append_assoc]; exact p3))
                rwa [show ((i + 1 : Nat) : Int) = (i : Int) + 1 by omega] at h9
            · rw [if_neg g3, List.length_nil, Nat.zero_add] at hk1
              rw [if_neg g3, List.nil_append] at hq
              have h9 := ihf (q + (b_el g.1 g.2.1 g.2.2).length) (i + 1) M1 L1 s2 (fun y hy => hvs y (List.mem_cons_of_mem _ hy)) (by omega) f1 p1 hk1 hq
              rwa [show ((i + 1 : Nat) : Int) = (i : Int) + 1 by omega] at h9
        have hvs : ∀ g ∈ es, g.2.2.length ≤ 190000 := by
          intro g hg
          obtain ⟨j, hj, hj2⟩ := List.getElem_of_mem hg
          have : ∀ (es : List b_E) (g : b_E), g ∈ es → g.2.2.length ≤ (b_ser es).length := by
            intro es
            induction es with
            | nil => exact fun _ h => absurd h (by simp)
            | cons y es ihy =>
              intro g hg
              have hl := b_el_len y.1 y.2.1 y.2.2
              rw [b_ser_len]
              rcases List.mem_cons.mp hg with rfl | hg
              · omega
              · have := ihy g hg
                omega
          have h7 := this es g hg
          rw [e2, b_doc_len] at hvb
          omega
        have h120 : ∀ (M1 : g_M) (w8 : Int) (L1 : List Int), g_InR w8 → k_F k_0 r M M1 → k_P M1 r b c e L1 → (z.2.1 = 3 → ∀ M2, k_F k_0 r M M2 → k_P M2 r b c e L1 → Q M2) → (z.2.1 = 4 → L1.length + ((L_ch z.1 z.2).flatMap (fun z => if z.2.1 = 3 then L_go D1 z.1 z.2 (x :: st) else [])).length ≤ 32000 ∧ ∀ M2, k_F k_0 r M M2 → k_P M2 r b c e (L1 ++ ((L_ch z.1 z.2).flatMap (fun z => if z.2.1 = 3 then L_go D1 z.1 z.2 (x :: st) else [])).map L_opt) → Q M2) → g_Run (d + (D1 + 1) + 3) 94 120 [(0, .ref o), (1, .ref r), (2, g_n z.1), (3, g_n s), (4, g_n lv), (5, .ref b), (6, g_n z.2.1), (7, g_n 1), (8, g_n w8)] [] M1 (g_qV Q) := by
          intro M1 w8 L1 rw9 f1 p1 h3 h4
          obtain ⟨b1, -⟩ := f1.A hP hA (fun g => absurd g (by decide)) id
          refine s_X5_walk_120 hz ⟨by omega, by omega⟩ ⟨by omega, by omega⟩ hkR ⟨by decide, by decide⟩ rw9 fun _ => ⟨fun g => c_fi2 (hA.up f1.1) hn (by rw [b1]; exact hs) fun _ _ _ => ?_, fun g => hend M1 _ _ _ hkR ⟨by decide, by decide⟩ rw9 f1 (h3 (by omega) M1 f1 p1)⟩
          obtain ⟨k1, k2⟩ := h4 g
          rw [show L_ch z.1 z.2 = L_at (z.1 + 6 + z.2.2.1.length) es from e7] at k1 k2
          exact hloop 1 w8 ⟨by decide, by decide⟩ rw9 es _ 0 M1 L1 e4 hvs (by omega) f1 p1 k1 k2
        have hfst : ∀ w : Int, w = L_opt (L_find x (L_ch z.1 z.2)) → g_Run (d + (D1 + 1) + 3) 94 85 [(0, .ref o), (1, .ref r), (2, g_n z.1), (3, g_n s), (4, g_n lv), (5, .ref b), (6, g_n z.2.1), (7, g_n 1)] [g_n w] M (g_qV Q) := by
          intro w hw
          rcases hf : L_find x (L_ch z.1 z.2) with _ | y
          · rw [hf] at hw
            have hw : w = -1 := hw
            subst hw
            refine s_X5_walk_85 hz ⟨by omega, by omega⟩ ⟨by omega, by omega⟩ hkR ⟨by decide, by decide⟩ ⟨by decide, by decide⟩ fun _ => ⟨fun _ => ⟨fun g4 => ?_, fun g4 => ⟨hP.1, ?_⟩⟩, fun g => absurd (by decide) g⟩
            · rw [L_go4 g4, hf, List.nil_append] at h hk
              exact h120 M _ L ⟨by decide, by decide⟩ (k_F.rf _ _ _) hP (fun g => absurd g (by omega)) (fun _ => ⟨hk, h⟩)
            · rw [L_go3 (by omega), hf] at h hk
              exact c_push (d := d + D1 + 2) hP ⟨by decide, by decide⟩ (by have : ([none] : List (Option (Int × b_E))).length = 1 := rfl; omega) fun M1 f1 p1 => fun _ _ => h120 M1 _ (L ++ [-1]) ⟨by decide, by decide⟩ f1 p1 (fun _ => h) (fun g => absurd g g4)
          · rw [hf] at hw
            have hw : w = y.1 := hw
            subst hw
            have hy := hf
            rw [show L_ch z.1 z.2 = L_at (z.1 + 6 + z.2.2.1.length) es from e7] at hy
            have hym := L_find_mem hy
            have hys := (L_at_st e4 y hym.1).1
            have hyv := hvs y.2 (L_at_st e4 y hym.1).2
            have hy0 := hys.2.2.2
            have hyR : g_InR y.1 := ⟨by omega, by omega⟩
            have hgo : L.length + (L_go D1 y.1 y.2 st).length ≤ 32000 ∧ (z.2.1 = 4 → L.length + (L_go D1 y.1 y.2 st).length + ((L_ch z.1 z.2).flatMap (fun z => if z.2.1 = 3 then L_go D1 z.1 z.2 (x :: st) else [])).length ≤ 32000) := by
              rcases hk34 with g | g
              · rw [L_go3 g, hf] at hk
                exact ⟨hk, fun g2 => absurd g2 (by omega)⟩
              · rw [L_go4 g, hf, List.length_append] at hk
                have hk : L.length + ((L_go D1 y.1 y.2 st).length + ((L_ch z.1 z.2).flatMap (fun z => if z.2.1 = 3 then L_go D1 z.1 z.2 (x :: st) else [])).length) ≤ 32000 := hk
                exact ⟨by omega, fun _ => by omega⟩
            refine s_X5_walk_85 hz ⟨by omega, by omega⟩ ⟨by omega, by omega⟩ hkR ⟨by decide, by decide⟩ hyR fun _ => ⟨fun g => absurd g (by omega), fun _ => ⟨⟨by omega, by omega⟩, ⟨by omega, by omega⟩, o1, ?_⟩⟩
            have h8 := ih D1 (by omega) (d := d) (M := M) (z := y) (st := st) (s := s + 1) (lv := lv + 1) hP hA hn hW.go hys hyv (by omega) (by omega) (by omega) hgo.1 (Q := fun M8 => g_ext M M8 → g_ok M8 → g_Run (d + (D1 + 1) + 3) 94 120 [(0, .ref o), (1, .ref r), (2, g_n z.1), (3, g_n s), (4, g_n lv), (5, .ref b), (6, g_n z.2.1), (7, g_n 1), (8, g_n y.1)] [] M8 (g_qV Q)) (fun M1 f1 p1 _ _ => ?_)
            · rwa [show ((s + 1 : Nat) : Int) = (s : Int) + 1 by omega] at h8
            · refine h120 M1 _ _ hyR f1 p1 (fun g => ?_) (fun g => ?_)
              · rw [L_go3 g, hf] at h
                exact h
              · rw [L_go4 g, hf, List.map_append, ← List.append_assoc] at h
                refine ⟨?_, h⟩
                have := hgo.2 g
                rw [List.length_append, List.length_map]
                omega
        have h52 : g_Run (d + (D1 + 1) + 3) 94 52 [(0, .ref o), (1, .ref r), (2, g_n z.1), (3, g_n s), (4, g_n lv), (5, .ref b), (6, g_n z.2.1)] [g_n 1] M (g_qV Q) := by
          refine s_X5_walk_52 hz ⟨by omega, by omega⟩ ⟨by omega, by omega⟩ hkR ⟨by decide, by decide⟩ fun _ => ⟨fun g => absurd g (by decide), fun _ => ⟨o1, a, w2, f, o2, _, o4, ⟨by omega, by omega⟩, t, o3, _, o5, ⟨by omega, by omega⟩, ?_⟩⟩
          rw [q1]
          exact c_find2 (d := d + D1 + 1) hA hn w3 w4 q3 q0 (by omega) hs hk34 hvb fun _ _ _ => hfst _ rfl
        exact ⟨fun _ => h52, fun _ => ⟨fun _ => h52, fun g => absurd hk34 (by omega)⟩⟩
      · have g3 : z.2.1 ≠ 3 := fun g => hk34 (Or.inl g)
        have g4 : z.2.1 ≠ 4 := fun g => hk34 (Or.inr g)
        rw [L_gox g3 g4] at h hk
        refine ⟨fun g => absurd g g3, fun _ => ⟨fun g => absurd g g4, fun _ => ?_⟩⟩
        refine s_X5_walk_52 hz ⟨by omega, by omega⟩ ⟨by omega, by omega⟩ hkR ⟨by decide, by decide⟩ fun _ => ⟨fun _ => ?_, fun g => absurd rfl g⟩
        refine s_X5_walk_85 hz ⟨by omega, by omega⟩ ⟨by omega, by omega⟩ hkR ⟨by decide, by decide⟩ ⟨by decide, by decide⟩ fun _ => ⟨fun _ => ⟨fun g => absurd g g4, fun _ => ⟨hP.1, ?_⟩⟩, fun g => absurd (by decide) g⟩
        refine c_push (d := d + D + 1) hP ⟨by decide, by decide⟩ (by have : ([none] : List (Option (Int × b_E))).length = 1 := rfl; omega) fun M1 f1 p1 => fun _ _ => ?_
        exact s_X5_walk_120 hz ⟨by omega, by omega⟩ ⟨by omega, by omega⟩ hkR ⟨by decide, by decide⟩ ⟨by decide, by decide⟩ fun _ => ⟨fun g => absurd g g4, fun _ => hend M1 _ _ _ hkR ⟨by decide, by decide⟩ ⟨by decide, by decide⟩ f1 (h M1 f1 p1)⟩
end WALK
