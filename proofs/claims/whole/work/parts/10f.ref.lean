/-! documents as bytes -/
abbrev b_E : Type := Int × List Int × List Int
def b_ser : List b_E → List Int
  | [] => []
  | e :: es => b_el e.1 e.2.1 e.2.2 ++ b_ser es
def b_doc (es : List b_E) : List Int := b_le4 ((b_ser es).length + 5) ++ (b_ser es ++ [0])
theorem b_doc_len (es : List b_E) : (b_doc es).length = (b_ser es).length + 5 := by
  unfold b_doc
  rw [List.length_append, List.length_append, show (b_le4 (((b_ser es).length : Int) + 5)).length = 4 from rfl, List.length_singleton]
  omega
theorem b_doc_at {B : Int → Int} {p : Int} {es : List b_E} (h : b_at B p (b_doc es)) : b_at B p (b_le4 ((b_ser es).length + 5)) ∧ b_at B (p + 4) (b_ser es) ∧ B (p + 4 + (b_ser es).length) = 0 := by
  unfold b_doc at h
  obtain ⟨h1, h2⟩ := b_app.mp h
  rw [show (b_le4 (((b_ser es).length : Int) + 5)).length = 4 from rfl] at h2
  obtain ⟨h3, h4⟩ := b_app.mp h2
  exact ⟨h1, h3, (b_cons.mp h4).1⟩
theorem b_ser_app (x y : List b_E) : b_ser (x ++ y) = b_ser x ++ b_ser y := by
  induction x with
  | nil => rfl
  | cons e x ih =>
    show b_el _ _ _ ++ b_ser (x ++ y) = (b_el _ _ _ ++ b_ser x) ++ b_ser y
    rw [ih, List.append_assoc]
/-- an element whose name and value are in form, as far as walking over it goes -/
def b_okE (e : b_E) : Prop := b_nz e.2.1 ∧ b_vs e.1 e.2.2
theorem b_vs_pos {k : Int} {vb : List Int} (h : b_vs k vb) : 1 ≤ k ∧ k ≤ 18 := by
  rcases h with ⟨h, -⟩ | ⟨h, -⟩ | ⟨h, -⟩ | ⟨h, -⟩ | ⟨h, -⟩ | ⟨h | h, -⟩ <;> omega
/-! the reference's own readers -/
/-- the reference m with its row of bytes b -/
def e_R (M : g_M) (m b : Nat) : Prop := g_O M m 12 ∧ g_r M m 0 = some b ∧ g_A M b 0 2706210
section C12
variable {d m b : Nat} {M : g_M} {Q : Int → g_M → Prop} {p z : Int} {k : Int} {nm vb : List Int}
theorem e_at (hR : e_R M m b) (h0 : 0 ≤ p) (h1 : p < 2706210) (h : Q (g_and (g_i M b p) 255) M) : g_Call (d + 1) 226 [.ref m, g_n p] M (g_qI Q) :=
  m_X12_at ⟨by omega, by omega⟩ fun _ => ⟨hR.1, b, hR.2.1, _, hR.2.2, ⟨h0, h1⟩, h⟩
theorem e_int4 (hR : e_R M m b) (h0 : 0 ≤ p) (h1 : p + 4 ≤ 2706210) (h : Q (b_w4 (g_i M b) p) M) : g_Call (d + 2) 227 [.ref m, g_n p] M (g_qI Q) := by
  refine m_X12_int4 ⟨by omega, by omega⟩ fun hok => ⟨hR.1, e_at hR h0 (by omega) fun _ _ _ => ⟨⟨by omega, by omega⟩, e_at hR (by omega) (by omega) fun _ _ _ => ⟨⟨by omega, by omega⟩, e_at hR (by omega) (by omega) fun _ _ _ => ⟨⟨by omega, by omega⟩, e_at hR (by omega) (by omega) fun _ _ _ => ?_⟩⟩⟩⟩
  have hb := hok.byte hR.2.2 (p + 3)
  rw [g_shl24 hb.1 hb.2]
  exact h
theorem e_same {p2 : Int} {x y : List Int} (hR : e_R M m b) (hx : b_at (g_i M b) p x) (hy : b_at (g_i M b) p2 y) (h0 : 0 ≤ p) (h1 : p + x.length ≤ 2706210) (h2 : 0 ≤ p2) (h3 : p2 + y.length ≤ 2706210) (h : Q (if x = y then 1 else 0) M) : g_Call (d + 1) 230 [.ref m, g_n p, g_n (p + x.length), g_n p2, g_n (p2 + y.length)] M (g_qI Q) := by
  have hl : ∀ (xs ys : List Int) (i : Nat), y.length = x.length → xs.length + i = x.length → ys.length = xs.length → b_at (g_i M b) (p + i) xs → b_at (g_i M b) (p2 + i) ys → Q (if xs = ys then 1 else 0) M → g_Run d 230 15 [(0, .ref m), (1, g_n p), (2, g_n (p + x.length)), (3, g_n p2), (4, g_n (p2 + y.length)), (5, g_n i)] [] M (g_qI Q) := by
    intro xs
    induction xs with
    | nil =>
      intro ys i hyl e1 e2 b1 b2 hq
      rw [List.length_nil] at e1 e2
      have : ys = [] := List.eq_nil_of_length_eq_zero e2
      subst this
      exact s_X12_isSameBytes_15 ⟨by omega, by omega⟩ ⟨by omega, by omega⟩ ⟨by omega, by omega⟩ ⟨by omega, by omega⟩ ⟨by omega, by omega⟩ fun hok => ⟨⟨by omega, by omega⟩, fun q => absurd q (by omega), fun _ => by simpa using hq⟩
    | cons v xs ih =>
      intro ys i hyl e1 e2 b1 b2 hq
      cases ys with
      | nil => simp at e2
      | cons w ys =>
        rw [List.length_cons] at e1
        rw [List.length_cons, List.length_cons] at e2
        obtain ⟨c1, c2⟩ := b_cons.mp b1
        obtain ⟨c3, c4⟩ := b_cons.mp b2
        refine s_X12_isSameBytes_15 ⟨by omega, by omega⟩ ⟨by omega, by omega⟩ ⟨by omega, by omega⟩ ⟨by omega, by omega⟩ ⟨by omega, by omega⟩ fun hok => ⟨⟨by omega, by omega⟩, fun _ => ⟨hR.1, b, hR.2.1, ⟨by omega, by omega⟩, _, hR.2.2, ⟨by omega, by omega⟩, b, hR.2.1, ⟨by omega, by omega⟩, _, hR.2.2, ⟨by omega, by omega⟩, ?_⟩, fun q => absurd (by omega) q⟩
        rw [c1, c3]
        refine ⟨fun q => ⟨⟨by omega, by omega⟩, ?_⟩, fun q => ?_⟩
        · have h8 := ih ys (i + 1) hyl (by omega) (by omega) (by rwa [show p + ((i + 1 : Nat) : Int) = p + i + 1 by omega]) (by rwa [show p2 + ((i + 1 : Nat) : Int) = p2 + i + 1 by omega]) (by
            subst q
            simpa using hq)
          rwa [show ((i + 1 : Nat) : Int) = (i : Int) + 1 by omega] at h8
        · have : ¬ (v :: xs = w :: ys) := fun e => q (List.cons.inj e).1
          rwa [if_neg this] at hq
  refine m_X12_isSameBytes ⟨by omega, by omega⟩ ⟨by omega, by omega⟩ ⟨by omega, by omega⟩ ⟨by omega, by omega⟩ fun hok => ⟨⟨by omega, by omega⟩, ⟨by omega, by omega⟩, fun q => ?_, fun q => ?_⟩
  · exact hl x y 0 (by omega) (by omega) (by omega) (by rwa [show p + ((0 : Nat) : Int) = p by omega]) (by rwa [show p2 + ((0 : Nat) : Int) = p2 by omega]) h
  · have : ¬ x = y := by
      intro e
      subst e
      exact q (by omega)
    rwa [if_neg this] at h
theorem e_nameEnd (hR : e_R M m b) (hz : b_nm (g_i M b) 2706210 p z) (h : Q z M) : g_Call (d + 1) 232 [.ref m, g_n p] M (g_qI Q) := by
  obtain ⟨h0, h1, h2, h3, h4⟩ := hz
  have hl : ∀ (k : Nat) (v : Int), p < v → v + k = z → g_Run d 232 4 [(0, .ref m), (1, g_n p), (2, g_n v)] [] M (g_qI Q) := by
    intro k
    induction k with
    | zero =>
      intro v hv e
      have : v = z := by omega
      subst this
      exact s_X12_nameEnd_4 ⟨by omega, by omega⟩ ⟨by omega, by omega⟩ fun hok => ⟨hR.1, b, hR.2.1, _, hR.2.2, ⟨by omega, by omega⟩, fun _ => h, fun q => absurd h3 q⟩
    | succ k ih =>
      intro v hv e
      exact s_X12_nameEnd_4 ⟨by omega, by omega⟩ ⟨by omega, by omega⟩ fun hok => ⟨hR.1, b, hR.2.1, _, hR.2.2, ⟨by omega, by omega⟩, fun q => absurd q (h4 v hv (by omega)), fun _ => ⟨⟨by omega, by omega⟩, ih (v + 1) (by omega) (by omega)⟩⟩
  exact m_X12_nameEnd ⟨by omega, by omega⟩ fun hok => ⟨⟨by omega, by omega⟩, hl (z - p - 1).toNat (p + 1) (by omega) (by omega)⟩
theorem e_value (hR : e_R M m b) (hz : b_nm (g_i M b) 2706210 p z) (h : Q (z + 1) M) : g_Call (d + 2) 233 [.ref m, g_n p] M (g_qI Q) := by
  obtain ⟨h0, h1, h2, h3, h4⟩ := id hz
  exact m_X12_value ⟨by omega, by omega⟩ fun hok => ⟨hR.1, e_nameEnd hR hz fun _ _ _ => ⟨⟨by omega, by omega⟩, h⟩⟩
theorem e_lengthOf (hR : e_R M m b) (hv : b_vs k vb) (hat : b_at (g_i M b) p vb) (h0 : 0 ≤ p) (h1 : p + vb.length ≤ 2706210) (h : Q vb.length M) : g_Call (d + 3) 234 [.ref m, g_n k, g_n p] M (g_qI Q) := by
  have hk := b_vs_pos hv
  refine m_X12_lengthOf ⟨by omega, by omega⟩ ⟨by omega, by omega⟩ fun hok => ?_
  rcases hv with ⟨rfl, hl⟩ | ⟨rfl, hl⟩ | ⟨rfl, hl⟩ | ⟨rfl, hl⟩ | ⟨rfl, s, rfl, hl⟩ | ⟨hk2, s, rfl, hl⟩
  · rw [hl] at h
    exact ⟨fun _ => h, fun q => absurd rfl q⟩
  · rw [hl] at h
    exact ⟨fun q => absurd q (by decide), fun _ => ⟨fun _ => h, fun q => absurd rfl q⟩⟩
  · rw [hl] at h
    exact ⟨fun q => absurd q (by decide), fun _ => ⟨fun q => absurd q (by decide), fun _ => ⟨fun _ => h, fun q => absurd rfl q⟩⟩⟩
  · rw [hl] at h
    exact ⟨fun q => absurd q (by decide), fun _ => ⟨fun q => absurd q (by decide), fun _ => ⟨fun q => absurd q (by decide), fun _ => ⟨fun _ => h, fun q => absurd rfl q⟩⟩⟩⟩
  · have hw := b_w4_le4 (by omega) (by omega) (b_app.mp hat).1
    rw [List.length_append, show (b_le4 (s.length : Int)).length = 4 from rfl] at h h1
    refine ⟨fun q => absurd q (by decide), fun _ => ⟨fun q => absurd q (by decide), fun _ => ⟨fun q => absurd q (by decide), fun _ => ⟨fun q => absurd q (by decide), fun _ => ⟨fun _ => ⟨hR.1, e_int4 hR h0 (by omega) fun _ _ _ => ?_⟩, fun q => absurd rfl q⟩⟩⟩⟩⟩
    rw [hw]
    refine ⟨⟨by omega, by omega⟩, ?_⟩
    rwa [show (4 : Int) + s.length = ((4 + s.length : Nat) : Int) by omega]
  · have hw := b_w4_le4 (by omega) (by omega) (b_app.mp hat).1
    rw [List.length_append, show (b_le4 ((s.length : Int) + 4)).length = 4 from rfl] at h h1
    refine ⟨fun q => absurd q (by omega), fun _ => ⟨fun q => absurd q (by omega), fun _ => ⟨fun q => absurd q (by omega), fun _ => ⟨fun q => absurd q (by omega), fun _ => ⟨fun q => absurd q (by omega), fun _ => ⟨hR.1, e_int4 hR h0 (by omega) fun _ _ _ => ?_⟩⟩⟩⟩⟩⟩
    rw [hw]
    rwa [show (s.length : Int) + 4 = ((4 + s.length : Nat) : Int) by omega]
theorem e_behind (hR : e_R M m b) (hat : b_at (g_i M b) p (b_el k nm vb)) (hz : b_nz nm) (hv : b_vs k vb) (h0 : 0 ≤ p) (h1 : p + (b_el k nm vb).length ≤ 2706210) (h : Q (p + (b_el k nm vb).length) M) : g_Call (d + 4) 235 [.ref m, g_n p] M (g_qI Q) := by
  obtain ⟨e0, e1, e2, e3⟩ := b_el_at hat
  rw [b_el_len] at h h1
  have hnm := b_el_nm hat hz h0 (n := 2706210) (by omega)
  refine m_X12_behind ⟨by omega, by omega⟩ fun hok => ⟨hR.1, e_value hR hnm fun _ _ _ => ⟨b, hR.2.1, _, hR.2.2, ⟨by omega, by omega⟩, ?_⟩⟩
  rw [e0]
  refine e_lengthOf hR hv (by rwa [show p + 1 + (nm.length : Int) + 1 = p + 2 + nm.length by omega]) (by omega) (by omega) fun _ _ _ => ⟨⟨by omega, by omega⟩, ?_⟩
  rwa [show p + 1 + (nm.length : Int) + 1 + vb.length = p + ((nm.length + vb.length + 2 : Nat) : Int) by omega]
theorem e_is {j : Nat} {x : List Int} (hj : j < q_nS) (hR : e_R M m b) (hx : b_at (g_i M b) p x) (h0 : 0 ≤ p) (h1 : p + x.length ≤ 2706210) (h : Q (if x = b_tx j then 1 else 0) M) : g_Call (d + 3) 231 [.ref m, g_n p, g_n (p + x.length), .ref (4 * j + 1)] M (g_qI Q) := by
  obtain ⟨t1, t2, t3⟩ := b_tx1 hj
  have hl : ∀ (ts xs : List Int) (i : Nat), (b_tx j).drop i = ts → i ≤ (b_tx j).length → x.length = (b_tx j).length → xs.length + i = x.length → b_at (g_i M b) (p + i) xs → Q (if xs = ts then 1 else 0) M → g_Run (d + 2) 231 15 [(0, .ref m), (1, g_n p), (2, g_n (p + x.length)), (3, .ref (4 * j + 1)), (4, g_n i)] [] M (g_qI Q) := by
    intro ts
    induction ts with
    | nil =>
      intro xs i hd hi hlen e1 b1 hq
      have hi2 : i = (b_tx j).length := by
        have := congrArg List.length hd
        rw [List.length_drop, List.length_nil] at this
        omega
      have : xs = [] := List.eq_nil_of_length_eq_zero (by omega)
      subst this
      exact s_X12_is_15 ⟨by omega, by omega⟩ ⟨by omega, by omega⟩ hj ⟨by omega, by omega⟩ fun hok => c_slen hj fun _ _ _ => ⟨fun q => absurd q (by omega), fun _ => by simpa using hq⟩
    | cons t ts ih =>
      intro xs i hd hi hlen e1 b1 hq
      have hi2 : i < (b_tx j).length := by
        have := congrArg List.length hd
        rw [List.length_drop, List.length_cons] at this
        omega
      have h9 : (b_tx j).drop i = (b_tx j)[i] :: (b_tx j).drop (i + 1) := List.drop_eq_getElem_cons hi2
      rw [hd] at h9
      have ht : (b_tx j)[i] = t := (List.cons.inj h9).1.symm
      have hd2 : (b_tx j).drop (i + 1) = ts := (List.cons.inj h9).2.symm
      have htp := t2 _ (List.getElem_mem hi2)
      rw [ht] at htp
      cases xs with
      | nil =>
        rw [List.length_nil] at e1
        omega
      | cons v xs =>
        rw [List.length_cons] at e1
        obtain ⟨c1, c2⟩ := b_cons.mp b1
        refine s_X12_is_15 ⟨by omega, by omega⟩ ⟨by omega, by omega⟩ hj ⟨by omega, by omega⟩ fun hok => c_slen hj fun _ _ _ => ⟨fun _ => ⟨⟨by omega, by omega⟩, hR.1, e_at hR (by omega) (by omega) fun _ _ _ => c_charAt hj hi2 fun _ _ _ => ?_⟩, fun q => absurd (by omega) q⟩
        have hb := hok.byte hR.2.2 (p + i)
        rw [ht]
        rw [c1] at hb ⊢
        rw [g_and255 hb.1 hb.2]
        refine ⟨fun q => ⟨⟨by omega, by omega⟩, ?_⟩, fun q => ?_⟩
        · have h8 := ih xs (i + 1) hd2 (by omega) hlen (by omega) (by rwa [show p + ((i + 1 : Nat) : Int) = p + i + 1 by omega]) (by
            have : v = t := by omega
            subst this
            simpa using hq)
          rwa [show (((i + 1 : Nat)) : Int) = (i : Int) + 1 by omega] at h8
        · have : ¬ (v :: xs = t :: ts) := fun e => q (by have := (List.cons.inj e).1; omega)
          rwa [if_neg this] at hq
  refine m_X12_is ⟨by omega, by omega⟩ ⟨by omega, by omega⟩ hj fun hok => ⟨⟨by omega, by omega⟩, c_slen hj fun _ _ _ => ⟨fun q => ?_, fun q => ?_⟩⟩
  · exact hl (b_tx j) x 0 rfl (by omega) (by omega) (by omega) (by rwa [show p + ((0 : Nat) : Int) = p by omega]) h
  · have : ¬ x = b_tx j := by
      intro e
      subst e
      exact q (by omega)
    rwa [if_neg this] at h
theorem e_isName {j : Nat} (hj : j < q_nS) (hR : e_R M m b) (hat : b_at (g_i M b) p (b_el k nm vb)) (hz : b_nz nm) (h0 : 0 ≤ p) (h1 : p + 1 + nm.length < 2706210) (h : Q (if nm = b_tx j then 1 else 0) M) : g_Call (d + 4) 236 [.ref m, g_n p, .ref (4 * j + 1)] M (g_qI Q) := by
  obtain ⟨e0, e1, e2, e3⟩ := b_el_at hat
  refine m_X12_isName ⟨by omega, by omega⟩ hj fun hok => ⟨⟨by omega, by omega⟩, hR.1, e_nameEnd hR (b_el_nm hat hz h0 h1) fun _ _ _ => e_is hj hR e1 (by omega) (by omega) fun _ _ _ => ⟨?_, h⟩⟩
  split
  · exact Or.inr rfl
  · exact Or.inl rfl
theorem e_first (h0 : 0 ≤ p) (h1 : p < 2706210) (h : Q (p + 4) M) : g_Call (d + 1) 237 [g_n p] M (g_qI Q) :=
  m_X12_first ⟨by omega, by omega⟩ fun _ => ⟨⟨by omega, by omega⟩, h⟩
theorem e_last {es : List b_E} (hR : e_R M m b) (hat : b_at (g_i M b) p (b_doc es)) (h0 : 0 ≤ p) (h1 : p + (b_doc es).length ≤ 2706210) (h : Q (p + 4 + (b_ser es).length) M) : g_Call (d + 3) 238 [.ref m, g_n p] M (g_qI Q) := by
  obtain ⟨a1, a2, a3⟩ := b_doc_at hat
  rw [b_doc_len] at h1
  have hw := b_w4_le4 (by omega) (by omega) a1
  refine m_X12_last ⟨by omega, by omega⟩ fun hok => ⟨hR.1, e_int4 hR h0 (by omega) fun _ _ _ => ?_⟩
  rw [hw]
  refine ⟨⟨by omega, by omega⟩, ⟨by omega, by omega⟩, ?_⟩
  rwa [show p + (((b_ser es).length : Int) + 5) - 1 = p + 4 + (b_ser es).length by omega]
end C12
