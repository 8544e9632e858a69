/-! LEAVES: where a path leads, over elements with places; the reference goes it -/
noncomputable def L_ch (o : Int) (e : b_E) : List (Int × b_E) := L_at (o + 6 + e.2.1.length) (b_ch e.2.2)
noncomputable def L_go : Nat → Int → b_E → List (List Int) → List (Option (Int × b_E))
  | _, o, e, [] => [some (o, e)]
  | 0, _, _, _ :: _ => [none]
  | D + 1, o, e, s :: r =>
    if e.1 = 3 then (match L_find s (L_ch o e) with
      | none => [none]
      | some z => L_go D z.1 z.2 r)
    else if e.1 = 4 then (match L_find s (L_ch o e) with
      | none => []
      | some z => L_go D z.1 z.2 r) ++ (L_ch o e).flatMap (fun z => if z.2.1 = 3 then L_go D z.1 z.2 (s :: r) else [])
    else [none]
theorem L_go_nil (D : Nat) (o : Int) (e : b_E) : L_go D o e [] = [some (o, e)] := by cases D <;> rfl
/-- the model's leaves: the row l, k of them -/
def e_LF (M : g_M) (m b l : Nat) (k : Int) : Prop := g_r M m 9 = some l ∧ g_A M l 1 80000 ∧ g_i M m 10 = k ∧ l ≠ b ∧ l ≠ m ∧ m ≠ b
def e_al (M : g_M) (m l : Nat) (k v : Int) : g_M := g_wi (g_wi M l k v) m 10 (k + 1)
def e_als (m l : Nat) : g_M → Int → List Int → g_M
  | M, _, [] => M
  | M, k, v :: vs => e_als m l (e_al M m l k v) (k + 1) vs
theorem e_als_app (m l : Nat) : ∀ (x y : List Int) (M : g_M) (k : Int), e_als m l M k (x ++ y) = e_als m l (e_als m l M k x) (k + x.length) y := by
  intro x
  induction x with
  | nil =>
    intro y M k
    show e_als m l M k y = e_als m l M (k + ((0 : Nat) : Int)) y
    rw [show k + ((0 : Nat) : Int) = k by omega]
  | cons v x ih =>
    intro y M k
    show e_als m l (e_al M m l k v) (k + 1) (x ++ y) = e_als m l (e_als m l (e_al M m l k v) (k + 1) x) (k + ((x.length + 1 : Nat) : Int)) y
    rw [ih, show k + 1 + (x.length : Int) = k + ((x.length + 1 : Nat) : Int) by omega]
def e_S (m l : Nat) (x : Nat) : Prop := x = m ∨ x = l
theorem e_al_fr (M : g_M) (m l : Nat) (k v : Int) : g_fr (e_S m l) M (e_al M m l k v) := (g_fr.wi _ _ (Or.inr rfl)).tr (g_fr.wi _ _ (Or.inl rfl))
theorem e_al_LF {M : g_M} {m b l : Nat} {k : Int} (v : Int) (h : e_LF M m b l k) : e_LF (e_al M m l k v) m b l (k + 1) := by
  obtain ⟨h1, h2, h3, h4, h5, h6⟩ := h
  refine ⟨h1, h2, ?_, h4, h5, h6⟩
  unfold e_al
  rw [g_i_wi, if_pos ⟨rfl, rfl⟩]
theorem e_al_R {M : g_M} {m b l : Nat} {k v : Int} (h : e_R M m b) : e_R (e_al M m l k v) m b := h
theorem e_als_R {m b l : Nat} : ∀ (vs : List Int) {M : g_M} {k : Int}, e_R M m b → e_LF M m b l k → e_R (e_als m l M k vs) m b ∧ e_LF (e_als m l M k vs) m b l (k + vs.length) ∧ g_i (e_als m l M k vs) b = g_i M b := by
  intro vs
  induction vs with
  | nil =>
    intro M k h1 h2
    refine ⟨h1, ?_, rfl⟩
    show e_LF M m b l (k + ((0 : Nat) : Int))
    rwa [show k + ((0 : Nat) : Int) = k by omega]
  | cons v vs ih =>
    intro M k h1 h2
    obtain ⟨i1, i2, i3⟩ := ih (e_al_R (l := l) (k := k) (v := v) h1) (e_al_LF v h2)
    refine ⟨i1, ?_, ?_⟩
    · rw [show k + (((v :: vs).length : Nat) : Int) = k + 1 + vs.length by rw [List.length_cons]; omega]
      exact i2
    · show g_i (e_als m l (e_al M m l k v) (k + 1) vs) b = _
      rw [i3]
      refine ((e_al_fr M m l k v).2 b ?_).1
      rintro (g | g)
      · exact h2.2.2.2.2.2 g.symm
      · exact h2.2.2.2.1 g.symm
section GOE
variable {d : Nat} {m b l : Nat}
theorem e_addLeaf {M : g_M} {Q : g_M → Prop} {k v : Int} (hR : e_R M m b) (hL : e_LF M m b l k) (h0 : 0 ≤ k) (h1 : k < 80000) (hv : g_InR v) (h : Q (e_al M m l k v)) : g_Call (d + 1) 277 [.ref m, g_n v] M (g_qV Q) := by
  obtain ⟨L1, L2, L3, L4, L5, L6⟩ := hL
  refine m_X12_addLeaf hv fun _ => ⟨hR.1, l, L1, _, L2, ⟨by omega, by omega⟩, fun M7 e7 _ => ?_⟩
  rw [L3] at e7
  subst e7
  have e8 : g_i (g_wi M l k v) m 10 = k := by rw [g_i_wi, if_neg (fun z => L5 z.1.symm), L3]
  rw [e8]
  refine ⟨⟨by omega, by omega⟩, fun M12 e12 _ => ?_⟩
  subst e12
  exact h
/-- the rest of a path, from a place on: the steps left -/
def e_rs (B : Int → Int) (p to : Int) (st : List (List Int)) : Prop := (st = [] ∧ p = to + 1) ∨ ∃ x, b_at B p x ∧ p + x.length = to ∧ st = p_sp x
theorem e_rs.hd {B : Int → Int} {p : Int} {x : List Int} (hx : b_at B p x) : b_at B p (p_hd x) ∧ p + (p_hd x).length ≤ p + x.length ∧ ∃ r, p_sp x = p_hd x :: r ∧ e_rs B (p + (p_hd x).length + 1) (p + x.length) r := by
  rcases p_hd_tl x with ⟨h1, h2⟩ | ⟨y, h1, h2⟩
  · rw [h2]
    refine ⟨hx, Int.le_refl _, [], ?_, Or.inl ⟨rfl, rfl⟩⟩
    have := p_sp_none h1
    rwa [h2] at this
  · have hl := congrArg List.length h2
    rw [List.length_append, List.length_cons] at hl
    have hx2 := hx
    rw [h2] at hx2
    obtain ⟨a1, a2⟩ := b_app.mp hx2
    refine ⟨a1, by omega, p_sp y, p_sp_some h1, Or.inr ⟨y, (b_cons.mp a2).2, by omega, rfl⟩⟩
/-- the values behind a path's first step in a document -/
noncomputable def L_doc (D : Nat) (l : List (Int × b_E)) : List (List Int) → List (Option (Int × b_E))
  | [] => []
  | s :: r => match L_find s l with
    | none => [none]
    | some z => L_go D z.1 z.2 r
theorem e_goDoc {D : Nat} {M : g_M} {Q : g_M → Prop} {k c p to : Int} {es : List b_E} {x : List Int} (hR : e_R M m b) (hL : e_LF M m b l k) (h0 : 0 ≤ k) (hes : e_tl (g_i M b) c (c + 4) D es es) (hx : b_at (g_i M b) p x) (hto : p + x.length = to) (hp : 0 ≤ p) (hp1 : to < 2706200)
    (hk : k + (L_doc D (L_at (c + 4) es) (p_sp x)).length ≤ 80000)
    (hgo : ∀ (z : Int × b_E) (q : Int) (r : List (List Int)), z ∈ L_at (c + 4) es → b_st (g_i M b) 2706210 z.1 D z.2.1 z.2.2.1 z.2.2.2 → e_rs (g_i M b) q to r → 0 ≤ q → q ≤ to + 1 → k + (L_go D z.1 z.2 r).length ≤ 80000 → Q (e_als m l M k ((L_go D z.1 z.2 r).map L_opt)) → g_Call (d + 6) 278 [.ref m, g_n z.1, g_n q, g_n to] M (g_qV Q))
    (h : Q (e_als m l M k ((L_doc D (L_at (c + 4) es) (p_sp x)).map L_opt))) : g_Call (d + 7) 279 [.ref m, g_n c, g_n p, g_n to] M (g_qV Q) := by
  obtain ⟨a1, a2, r, a3, a4⟩ := e_rs.hd hx
  have z1 := hes.st
  rw [a3] at hk h
  have hk : k + (match L_find (p_hd x) (L_at (c + 4) es) with
    | none => [none]
    | some z => L_go D z.1 z.2 r).length ≤ 80000 := hk
  have h : Q (e_als m l M k ((match L_find (p_hd x) (L_at (c + 4) es) with
    | none => [none]
    | some z => L_go D z.1 z.2 r).map L_opt)) := h
  subst hto
  refine m_X12_goDocument ⟨by omega, by omega⟩ ⟨by omega, by omega⟩ ⟨by omega, by omega⟩ fun _ => ⟨hR.1, e_stepEnd hR hx hp (by omega) fun _ _ _ => e_findE hR hes a1 hp (by omega) fun _ _ _ => ?_⟩
  rcases hf : L_find (p_hd x) (L_at (c + 4) es) with _ | z
  · rw [hf] at h hk
    refine ⟨fun _ => e_addLeaf hR hL h0 (by simp at hk; omega) ⟨by decide, by decide⟩ fun _ _ => h, fun g => absurd rfl g⟩
  · rw [hf] at h hk
    have hz := (L_at_st hes.2.2.2.1 z (L_find_mem hf).1).1
    have hz0 := hz.2.2.2.1
    refine ⟨fun g => absurd (show z.1 = -1 from g) (by omega), fun _ => ⟨⟨by omega, by omega⟩, ?_⟩⟩
    have h8 := hgo z (p + (p_hd x).length + 1) r (L_find_mem hf).1 hz a4 (by omega) (by omega) hk h
    exact h8.mono fun v M1 _ hq => ⟨hq.1, fun _ _ => hq.2⟩
theorem b_dg_inj {i j : Nat} (hi : i < 10000) (hj : j < 10000) (h : b_dg i = b_dg j) : i = j := by
  have h1 := (u_dg_can (i + 1) i (by omega) hi).2.1
  have h2 := (u_dg_can (j + 1) j (by omega) hj).2.1
  rw [h, h2] at h1
  omega
theorem L_find_row {s : List Int} : ∀ (es : List b_E) (q : Int) (j : Nat), (∀ (i : Nat) (e : b_E), es[i]? = some e → e.2.1 = b_dg (j + i)) → j + es.length ≤ 10000 → (∀ n : Nat, n < 10000 → j ≤ n → s = b_dg n → L_find s (L_at q es) = (L_at q es)[n - j]?) ∧ ((∀ n : Nat, n < 10000 → s ≠ b_dg n) → L_find s (L_at q es) = none) := by
  intro es
  induction es with
  | nil => exact fun q j _ _ => ⟨fun n _ _ _ => by simp [L_at, L_find], fun _ => rfl⟩
  | cons e es ih =>
    intro q j h hj
    rw [List.length_cons] at hj
    have he : e.2.1 = b_dg j := h 0 e rfl
    obtain ⟨i1, i2⟩ := ih (q + (b_el e.1 e.2.1 e.2.2).length) (j + 1) (fun i f hf => by
      rw [show j + 1 + i = j + (i + 1) by omega]
      exact h (i + 1) f hf) (by omega)
    constructor
    · intro n hn hjn hs
      show (if e.2.1 = s then some (q, e) else L_find s (L_at (q + _) es)) = ((q, e) :: L_at (q + _) es)[n - j]?
      by_cases g : n = j
      · rw [if_pos (by rw [he, hs, g]), show n - j = 0 by omega]
        rfl
      · rw [if_neg (fun z => g (b_dg_inj hn (by omega) (by rw [← hs, ← z, he])))]
        rw [i1 n hn (by omega) hs, show n - j = (n - (j + 1)) + 1 by omega]
        rfl
    · intro hs
      show (if e.2.1 = s then some (q, e) else L_find s (L_at (q + _) es)) = none
      rw [if_neg (fun z => hs j (by omega) (by rw [← z, he]))]
      exact i2 hs
end GOE
