/-! a document's elements are told by its bytes -/
theorem b_nz_split : ∀ {x y s t : List Int}, b_nz x → b_nz y → x ++ 0 :: s = y ++ 0 :: t → x = y ∧ s = t := by
  intro x
  induction x with
  | nil =>
    intro y s t _ hy h
    cases y with
    | nil => exact ⟨rfl, (List.cons.inj h).2⟩
    | cons c y => exact absurd (List.cons.inj h).1.symm (hy c List.mem_cons_self)
  | cons a x ih =>
    intro y s t hx hy h
    cases y with
    | nil => exact absurd (List.cons.inj h).1 (hx a List.mem_cons_self)
    | cons c y =>
      obtain ⟨h1, h2⟩ := List.cons.inj h
      obtain ⟨h3, h4⟩ := ih (fun c hc => hx c (List.mem_cons_of_mem _ hc)) (fun c hc => hy c (List.mem_cons_of_mem _ hc)) h2
      exact ⟨by rw [h1, h3], h4⟩
theorem b_le4_inj {a b : Int} (h0 : 0 ≤ a) (h1 : a < 16777216) (h2 : 0 ≤ b) (h3 : b < 16777216) (h : b_le4 a = b_le4 b) : a = b := by
  unfold b_le4 at h
  simp only [List.cons.injEq] at h
  obtain ⟨e0, e1, e2, -⟩ := h
  have k0 := congrArg (fun x => x % 256) e0
  have k1 := congrArg (fun x => x % 256) e1
  have k2 := congrArg (fun x => x % 256) e2
  simp only [g_w8_mod] at k0 k1 k2
  omega
theorem b_vs_len {k : Int} {v w s t : List Int} (hv : b_vs k v) (hw : b_vs k w) (h : v ++ s = w ++ t) : v.length = w.length := by
  have t4 : ∀ (a b : Int) (x y : List Int), b_le4 a ++ x = b_le4 b ++ y → b_le4 a = b_le4 b := fun a b x y e => (List.append_inj e rfl).1
  rcases hv with ⟨rfl, hl⟩ | ⟨rfl, hl⟩ | ⟨rfl, hl⟩ | ⟨rfl, hl⟩ | ⟨rfl, x, rfl, hl⟩ | ⟨hk, x, rfl, hl⟩ <;>
  rcases hw with ⟨e, hm⟩ | ⟨e, hm⟩ | ⟨e, hm⟩ | ⟨e, hm⟩ | ⟨e, y, rfl, hm⟩ | ⟨hk2, y, rfl, hm⟩ <;>
  first
    | omega
    | (rw [List.append_assoc, List.append_assoc] at h
       have h2 := b_le4_inj (by omega) (by omega) (by omega) (by omega) (t4 _ _ _ _ h)
       rw [List.length_append, List.length_append, show (b_le4 _).length = 4 from rfl, show (b_le4 _).length = 4 from rfl]
       omega)
theorem b_ser_inj : ∀ {x y : List b_E}, (∀ e ∈ x, b_okE e) → (∀ e ∈ y, b_okE e) → b_ser x = b_ser y → x = y := by
  intro x
  induction x with
  | nil =>
    intro y _ _ h
    cases y with
    | nil => rfl
    | cons e y =>
      have := congrArg List.length h
      unfold b_ser b_el at this
      simp at this
  | cons e x ih =>
    intro y hx hy h
    cases y with
    | nil =>
      have := congrArg List.length h
      unfold b_ser b_el at this
      simp at this
    | cons f y =>
      obtain ⟨k, nm, vb⟩ := e
      obtain ⟨k2, nm2, vb2⟩ := f
      have h1 := hx _ List.mem_cons_self
      have h2 := hy _ List.mem_cons_self
      have h : (k :: (nm ++ 0 :: vb)) ++ b_ser x = (k2 :: (nm2 ++ 0 :: vb2)) ++ b_ser y := h
      rw [List.cons_append, List.cons_append] at h
      obtain ⟨rfl, h3⟩ := List.cons.inj h
      rw [List.append_assoc, List.append_assoc] at h3
      obtain ⟨rfl, h4⟩ := b_nz_split h1.1 h2.1 h3
      obtain ⟨rfl, h5⟩ := List.append_inj h4 (b_vs_len h1.2 h2.2 h4)
      rw [ih (fun e he => hx e (List.mem_cons_of_mem _ he)) (fun e he => hy e (List.mem_cons_of_mem _ he)) h5]
theorem b_doc_inj {x y : List b_E} (hx : ∀ e ∈ x, b_okE e) (hy : ∀ e ∈ y, b_okE e) (h : b_doc x = b_doc y) : x = y := by
  unfold b_doc at h
  have t4 : ∀ z : Int, (b_le4 z).length = 4 := fun _ => rfl
  obtain ⟨-, h2⟩ := List.append_inj h ((t4 _).trans (t4 _).symm)
  exact b_ser_inj hx hy (List.append_inj' h2 rfl).1
noncomputable def b_ch (vb : List Int) : List b_E := @dite _ (∃ es : List b_E, vb = b_doc es ∧ ∀ e ∈ es, b_okE e) (Classical.propDecidable _) (fun h => Classical.choose h) (fun _ => [])
theorem b_ch_doc {es : List b_E} (h : ∀ e ∈ es, b_okE e) : b_ch (b_doc es) = es := by
  unfold b_ch
  have h1 : ∃ es2 : List b_E, b_doc es = b_doc es2 ∧ ∀ e ∈ es2, b_okE e := ⟨es, rfl, h⟩
  rw [dif_pos h1]
  have h2 := Classical.choose_spec h1
  exact (b_doc_inj h h2.2 h2.1).symm
/-! good values: d documents and rows deep at most -/
def u_digs (n : Nat) : Nat → Nat → List Int
  | 0, _ => []
  | l + 1, ten => (48 + ((n / ten % 10 : Nat) : Int)) :: u_digs n l (ten / 10)
/-- the digits of a number below 10000 -/
def b_dg (n : Nat) : List Int := if n < 10 then u_digs n 1 1 else if n < 100 then u_digs n 2 10 else if n < 1000 then u_digs n 3 100 else u_digs n 4 1000
def b_lf (k : Int) (vb : List Int) : Prop := (k = 16 ∧ vb.length = 4) ∨ (k = 18 ∧ vb.length = 8) ∨ (k = 8 ∧ (vb = [0] ∨ vb = [1])) ∨ (k = 10 ∧ vb = []) ∨ (k = 2 ∧ ∃ s : List Int, vb = b_le4 (s.length + 1) ++ (s ++ [0]) ∧ s.length < 16777000)
def b_gv : Nat → Int → List Int → Prop
  | 0, k, vb => b_lf k vb
  | d + 1, k, vb => b_lf k vb ∨ ((k = 3 ∨ k = 4) ∧ ∃ es : List b_E, vb = b_doc es ∧ (b_ser es).length < 16000000 ∧ (∀ e ∈ es, b_nz e.2.1 ∧ b_gv d e.1 e.2.2) ∧ (k = 4 → ∀ (i : Nat) (e : b_E), es[i]? = some e → e.2.1 = b_dg i))
theorem b_lf_vs {k : Int} {vb : List Int} (h : b_lf k vb) : b_vs k vb := by
  rcases h with h | h | ⟨h, h2⟩ | ⟨h, h2⟩ | ⟨h, s, h2, h3⟩
  · exact Or.inl h
  · exact Or.inr (Or.inl h)
  · exact Or.inr (Or.inr (Or.inl ⟨h, by rcases h2 with rfl | rfl <;> rfl⟩))
  · exact Or.inr (Or.inr (Or.inr (Or.inl ⟨h, by rw [h2]; rfl⟩)))
  · refine Or.inr (Or.inr (Or.inr (Or.inr (Or.inl ⟨h, s ++ [0], ?_, ?_⟩))))
    · rw [h2, List.length_append]
      rfl
    · rw [List.length_append]
      simp
      omega
theorem b_gv_vs : ∀ {d : Nat} {k : Int} {vb : List Int}, b_gv d k vb → b_vs k vb := by
  intro d
  cases d with
  | zero => intro k vb h; exact b_lf_vs h
  | succ d =>
    intro k vb h
    rcases h with h | ⟨hk, es, rfl, hl, -, -⟩
    · exact b_lf_vs h
    · refine Or.inr (Or.inr (Or.inr (Or.inr (Or.inr ⟨hk, b_ser es ++ [0], ?_, ?_⟩))))
      · unfold b_doc
        rw [List.length_append]
        congr 2
      · rw [List.length_append]
        simp
        omega
theorem b_gv_up : ∀ {d : Nat} {k : Int} {vb : List Int}, b_gv d k vb → b_gv (d + 1) k vb := by
  intro d
  induction d with
  | zero => intro k vb h; exact Or.inl h
  | succ d ih =>
    intro k vb h
    rcases h with h | ⟨hk, es, h1, hl, h2, h3⟩
    · exact Or.inl h
    · exact Or.inr ⟨hk, es, h1, hl, fun e he => ⟨(h2 e he).1, ih (h2 e he).2⟩, h3⟩
/-- the elements of a good document or row -/
theorem b_gv_doc {d : Nat} {k : Int} {vb : List Int} (h : b_gv d k vb) (hk : k = 3 ∨ k = 4) : ∃ (d1 : Nat) (es : List b_E), d = d1 + 1 ∧ vb = b_doc es ∧ (b_ser es).length < 16000000 ∧ (∀ e ∈ es, b_okE e) ∧ (∀ e ∈ es, b_nz e.2.1 ∧ b_gv d1 e.1 e.2.2) ∧ (k = 4 → ∀ (i : Nat) (e : b_E), es[i]? = some e → e.2.1 = b_dg i) ∧ b_ch vb = es := by
  cases d with
  | zero =>
    exfalso
    rcases h with ⟨h, -⟩ | ⟨h, -⟩ | ⟨h, -⟩ | ⟨h, -⟩ | ⟨h, -⟩ <;> omega
  | succ d =>
    rcases h with h | ⟨-, es, h1, hl, h2, h3⟩
    · exfalso
      rcases h with ⟨h, -⟩ | ⟨h, -⟩ | ⟨h, -⟩ | ⟨h, -⟩ | ⟨h, -⟩ <;> omega
    · have h4 : ∀ e ∈ es, b_okE e := fun e he => ⟨(h2 e he).1, b_gv_vs (h2 e he).2⟩
      exact ⟨d, es, rfl, h1, hl, h4, h2, h3, by rw [h1]; exact b_ch_doc h4⟩
/-! walking over the elements: the class -/
section W7
variable {d a : Nat} {M : g_M} {Q : Int → g_M → Prop} {n p : Int} {k : Int} {nm : List Int} {es : List b_E}
theorem b_kd_in {B : Int → Int} (h0 : 0 ≤ p) (h1 : p < n) : b_kd B n p = B p := by
  unfold b_kd
  rw [if_neg (by omega), if_pos h1]
theorem b_ser_cons_at {B : Int → Int} {e : b_E} (h : b_at B p (b_ser (e :: es))) : b_at B p (b_el e.1 e.2.1 e.2.2) ∧ b_at B (p + (b_el e.1 e.2.1 e.2.2).length) (b_ser es) := b_app.mp h
theorem b_ser_len (e : b_E) (es : List b_E) : (b_ser (e :: es)).length = (b_el e.1 e.2.1 e.2.2).length + (b_ser es).length := List.length_append
theorem b_ser_many : ∀ es : List b_E, 2 * es.length ≤ (b_ser es).length := by
  intro es
  induction es with
  | nil => exact Nat.le_refl 0
  | cons e es ih =>
    rw [b_ser_len, b_el_len, List.length_cons]
    omega
theorem c_items (hA : g_A M a 0 n) (hn : n ≤ 1000000000) (hat : b_at (g_i M a) p (b_el k nm (b_doc es))) (hz : b_nz nm) (hok : ∀ e ∈ es, b_okE e) (h0 : 0 ≤ p) (h1 : p + (b_el k nm (b_doc es)).length ≤ n) (hm : es.length < 100000) (h : Q es.length M) : g_Call (d + 2) 113 [.ref a, g_n p] M (g_qI Q) := by
  obtain ⟨e0, e1, e2, e3⟩ := b_el_at hat
  rw [b_el_len, b_doc_len] at h1
  obtain ⟨-, s1, s2⟩ := b_doc_at e3
  have hnm := b_el_nm hat hz h0 (n := n) (by omega)
  have hl : ∀ (es2 : List b_E) (q : Int) (i c : Nat), (∀ e ∈ es2, b_okE e) → 0 ≤ q → b_at (g_i M a) q (b_ser es2) → g_i M a (q + (b_ser es2).length) = 0 → q + (b_ser es2).length < n → i + es2.length < 100000 → c ≤ i → Q ((c + es2.length : Nat) : Int) M → g_Run (d + 1) 113 11 [(0, .ref a), (1, g_n p), (2, g_n c), (3, g_n q), (4, g_n i)] [] M (g_qI Q) := by
    intro es2
    induction es2 with
    | nil =>
      intro q i c ho hq0 hb hb0 hb1 hi hc hq
      rw [show b_ser [] = [] from rfl, List.length_nil] at hb0 hb1
      refine s_X7_items_11 ⟨by omega, by omega⟩ ⟨by omega, by omega⟩ ⟨by omega, by omega⟩ ⟨by omega, by omega⟩ fun _ => ⟨fun _ => c_kind hA ⟨by omega, by omega⟩ ⟨by omega, by omega⟩ fun _ _ _ => ⟨fun _ => hq, fun g => absurd ?_ g⟩, fun g => absurd (by simp at hi; omega) g⟩
      rw [b_kd_in hq0 (by omega)]
      rwa [show q + ((0 : Nat) : Int) = q by omega] at hb0
    | cons e es2 ih =>
      intro q i c ho hq0 hb hb0 hb1 hi hc hq
      rw [List.length_cons] at hi hq
      obtain ⟨b1, b2⟩ := b_ser_cons_at hb
      rw [b_ser_len] at hb0 hb1
      have he := ho e List.mem_cons_self
      have hp := b_vs_pos he.2
      have hk := (b_el_at b1).1
      refine s_X7_items_11 ⟨by omega, by omega⟩ ⟨by omega, by omega⟩ ⟨by omega, by omega⟩ ⟨by omega, by omega⟩ fun _ => ⟨fun _ => c_kind hA ⟨by omega, by omega⟩ ⟨by omega, by omega⟩ fun _ _ _ => ⟨fun g => absurd ?_ (show ¬ e.1 = 0 by omega), fun _ => ⟨⟨by omega, by omega⟩, c_next hA hn b1 he.1 he.2 hq0 (by omega) fun _ _ _ => ⟨⟨by omega, by omega⟩, ?_⟩⟩⟩, fun g => absurd (by omega) g⟩
      · rw [b_kd_in hq0 (by rw [b_el_len] at hb1; omega), hk] at g
        exact g
      · have h8 := ih (q + (b_el e.1 e.2.1 e.2.2).length) (i + 1) (c + 1) (fun f hf => ho f (List.mem_cons_of_mem _ hf)) (by omega) b2 (by rwa [show q + ((b_el e.1 e.2.1 e.2.2).length : Int) + (b_ser es2).length = q + (((b_el e.1 e.2.1 e.2.2).length + (b_ser es2).length : Nat) : Int) by omega]) (by omega) (by omega) (by omega) (by rwa [show c + 1 + es2.length = c + (es2.length + 1) by omega])
        rwa [show ((i + 1 : Nat) : Int) = (i : Int) + 1 by omega, show ((c + 1 : Nat) : Int) = (c : Int) + 1 by omega] at h8
  refine m_X7_items ⟨by omega, by omega⟩ fun _ => c_first hA ⟨by omega, by omega⟩ hnm hn fun _ _ _ => ?_
  have h8 := hl es (p + 1 + nm.length + 5) 0 0 hok (by omega) (by rwa [show p + 1 + (nm.length : Int) + 5 = p + 2 + nm.length + 4 by omega]) (by rwa [show p + 1 + (nm.length : Int) + 5 + (b_ser es).length = p + 2 + nm.length + 4 + (b_ser es).length by omega]) (by omega) (by omega) (by omega) (by rwa [Nat.zero_add])
  exact h8
theorem c_find {a2 : Nat} {p2 n2 : Int} {x : List Int} (hA : g_A M a 0 n) (hn : n ≤ 1000000000) (hA2 : g_A M a2 0 n2) (hn2 : n2 ≤ 1000000000) (hx : b_at (g_i M a2) p2 x) (hp2 : 0 ≤ p2) (hp3 : p2 + x.length ≤ n2) (hat : b_at (g_i M a) p (b_el k nm (b_doc es))) (hz : b_nz nm) (hok : ∀ e ∈ es, b_okE e) (h0 : 0 ≤ p) (h1 : p + (b_el k nm (b_doc es)).length ≤ n) (hm : es.length < 100000) (hf : ∀ es1 e es2, es = es1 ++ e :: es2 → e.2.1 = x → (∀ f ∈ es1, f.2.1 ≠ x) → Q (p + 6 + nm.length + (b_ser es1).length) M) (hno : (∀ f ∈ es, f.2.1 ≠ x) → Q (-1) M) : g_Call (d + 3) 114 [.ref a, g_n p, .ref a2, g_n p2, g_n (p2 + x.length)] M (g_qI Q) := by
  obtain ⟨e0, e1, e2, e3⟩ := b_el_at hat
  rw [b_el_len, b_doc_len] at h1
  obtain ⟨-, s1, s2⟩ := b_doc_at e3
  have hnm := b_el_nm hat hz h0 (n := n) (by omega)
  have hl : ∀ (es2 es1 : List b_E) (q : Int) (i : Nat), es = es1 ++ es2 → (∀ f ∈ es1, f.2.1 ≠ x) → q = p + 6 + nm.length + (b_ser es1).length → (∀ e ∈ es2, b_okE e) → b_at (g_i M a) q (b_ser es2) → g_i M a (q + (b_ser es2).length) = 0 → q + (b_ser es2).length < n → i + es2.length < 100000 → g_Run (d + 2) 114 10 [(0, .ref a), (1, g_n p), (2, .ref a2), (3, g_n p2), (4, g_n (p2 + x.length)), (5, g_n q), (6, g_n i)] [] M (g_qI Q) := by
    intro es2
    induction es2 with
    | nil =>
      intro es1 q i hes hne hq ho hb hb0 hb1 hi
      rw [show b_ser [] = [] from rfl, List.length_nil] at hb0 hb1
      refine s_X7_find_10 ⟨by omega, by omega⟩ ⟨by omega, by omega⟩ ⟨by omega, by omega⟩ ⟨by omega, by omega⟩ ⟨by omega, by omega⟩ fun _ => ⟨fun _ => c_kind hA ⟨by omega, by omega⟩ ⟨by omega, by omega⟩ fun _ _ _ => ⟨fun _ => hno (by rw [hes, List.append_nil]; exact hne), fun g => absurd ?_ g⟩, fun g => absurd (by simp at hi; omega) g⟩
      rw [b_kd_in (by omega) (by omega)]
      rwa [show q + ((0 : Nat) : Int) = q by omega] at hb0
    | cons e es2 ih =>
      intro es1 q i hes hne hq ho hb hb0 hb1 hi
      rw [List.length_cons] at hi
      obtain ⟨b1, b2⟩ := b_ser_cons_at hb
      rw [b_ser_len] at hb0 hb1
      have he := ho e List.mem_cons_self
      have hp := b_vs_pos he.2
      obtain ⟨hk, hnmb, -, -⟩ := b_el_at b1
      have hlen := b_el_len e.1 e.2.1 e.2.2
      have hnm2 := b_el_nm b1 he.1 (by omega) (n := n) (by omega)
      refine s_X7_find_10 ⟨by omega, by omega⟩ ⟨by omega, by omega⟩ ⟨by omega, by omega⟩ ⟨by omega, by omega⟩ ⟨by omega, by omega⟩ fun hok2 => ⟨fun _ => c_kind hA ⟨by omega, by omega⟩ ⟨by omega, by omega⟩ fun _ _ _ => ⟨fun g => absurd ?_ (show ¬ e.1 = 0 by omega), fun _ => ⟨⟨by omega, by omega⟩, c_va hA ⟨by omega, by omega⟩ hnm2 fun _ _ _ => ⟨⟨by omega, by omega⟩, ?_⟩⟩⟩, fun g => absurd (by omega) g⟩
      · rw [b_kd_in (by omega) (by omega), hk] at g
        exact g
      · have hB1 : b_B e.2.1 := by
          intro c hc
          obtain ⟨j, hj, rfl⟩ := List.getElem_of_mem hc
          rw [← hnmb j _ (List.getElem?_eq_getElem hj)]
          exact hok2.byte hA _
        have hB2 : b_B x := by
          intro c hc
          obtain ⟨j, hj, rfl⟩ := List.getElem_of_mem hc
          rw [← hx j _ (List.getElem?_eq_getElem hj)]
          exact hok2.byte hA2 _
        rw [show q + 1 + (e.2.1.length : Int) + 1 - 1 = q + 1 + e.2.1.length by omega]
        refine c_cmp hA hA2 hn hn2 hnmb hx (by omega) (by omega) hp2 hp3 fun _ _ _ => ⟨fun g => ?_, fun g => ?_⟩
        · rw [b_cmp0 hB1 hB2] at g
          rw [hq]
          exact hf es1 e es2 hes g hne
        · rw [b_cmp0 hB1 hB2] at g
          refine c_next hA hn b1 he.1 he.2 (by omega) (by omega) fun _ _ _ => ⟨⟨by omega, by omega⟩, ?_⟩
          have h8 := ih (es1 ++ [e]) (q + (b_el e.1 e.2.1 e.2.2).length) (i + 1) (by rw [hes]; simp) (fun f hf2 => by
            rcases List.mem_append.mp hf2 with g2 | g2
            · exact hne f g2
            · rw [List.mem_singleton.mp g2]
              exact g) (by
            rw [b_ser_app, List.length_append, b_ser_len, show b_ser [] = [] from rfl, List.length_nil]
            omega) (fun f hf2 => ho f (List.mem_cons_of_mem _ hf2)) b2 (by rwa [show q + ((b_el e.1 e.2.1 e.2.2).length : Int) + (b_ser es2).length = q + (((b_el e.1 e.2.1 e.2.2).length + (b_ser es2).length : Nat) : Int) by omega]) (by omega) (by omega)
          rwa [show ((i + 1 : Nat) : Int) = (i : Int) + 1 by omega] at h8
  refine m_X7_find ⟨by omega, by omega⟩ ⟨by omega, by omega⟩ ⟨by omega, by omega⟩ fun _ => c_first hA ⟨by omega, by omega⟩ hnm hn fun _ _ _ => ?_
  exact hl es [] (p + 1 + nm.length + 5) 0 rfl (fun f hf2 => by cases hf2) (by
    rw [show b_ser [] = [] from rfl, List.length_nil]
    omega) hok (by rwa [show p + 1 + (nm.length : Int) + 5 = p + 2 + nm.length + 4 by omega]) (by rwa [show p + 1 + (nm.length : Int) + 5 + (b_ser es).length = p + 2 + nm.length + 4 + (b_ser es).length by omega]) (by omega) (by omega)
end W7
