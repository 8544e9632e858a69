/-! STAGES: the documents around a row -/
theorem h_q_sh (p s : Int) (f : h_F) : h_q (p + s) f = h_q p f + s := by
  unfold h_q
  omega
theorem h_at_sh : ∀ (c : List h_F) (p s : Int), h_at (p + s) c = h_at p c + s := by
  intro c
  induction c with
  | nil => exact fun _ _ => rfl
  | cons f c ih =>
    intro p s
    show h_at (h_q (p + s) f) c = h_at (h_q p f) c + s
    rw [h_q_sh, ih]
theorem b_at_sh {B : Int → Int} {p : Int} {x : List Int} (s : Int) (h : b_at B p x) : b_at (fun k => B (k - s)) (p + s) x := b_at_move h fun k _ _ => by
  show B (k + s - s) = B k
  rw [show k + s - s = k by omega]
theorem h_Z_sh {B : Int → Int} {h : Nat} (s : Int) : ∀ (c : List h_F) (p : Int), h_Z B h p c → h_Z (fun k => B (k - s)) h (p + s) c := by
  intro c
  induction c with
  | nil => exact fun _ _ => trivial
  | cons f c ih =>
    intro p hz
    obtain ⟨z1, z2, z3, z4, z5⟩ := hz
    refine ⟨b_at_sh s z1, ?_, ?_, ?_, ?_⟩
    · have := b_at_sh s z2
      rwa [show p + 2 + (f.2.1.length : Int) + s = p + s + 2 + f.2.1.length by omega] at this
    · have := b_at_sh s z3
      rwa [show p + 6 + (f.2.1.length : Int) + s = p + s + 6 + f.2.1.length by omega] at this
    · rw [h_q_sh]
      exact ih _ z4
    · have := b_at_sh s z5
      rwa [show h_q p f + (h_hs h c : Int) + s = h_q (p + s) f + h_hs h c by rw [h_q_sh]; omega] at this
theorem h_Z_cons {B : Int → Int} {h : Nat} {f : h_F} {c : List h_F} {p : Int} : h_Z B h p (f :: c) ↔ h_Z B (h_hs h c) p [f] ∧ h_Z B h (h_q p f) c := by
  constructor
  · rintro ⟨z1, z2, z3, z4, z5⟩
    exact ⟨⟨z1, z2, z3, trivial, z5⟩, z4⟩
  · rintro ⟨⟨z1, z2, z3, -, z5⟩, z4⟩
    exact ⟨z1, z2, z3, z4, z5⟩
theorem h_hs_cons (h : Nat) (f : h_F) (c : List h_F) : h_hs h (f :: c) = h_hs (h_hs h c) [f] := rfl
/-- the documents c around the element x that a path leads to -/
noncomputable def U_cx (x : b_E) : List (List Int) → b_E → List h_F → Prop
  | [], _, _ => False
  | s :: r, e, c => ∃ (l t : List b_E) (x0 : b_E) (c2 : List h_F), e.1 = 3 ∧ b_ch e.2.2 = l ++ x0 :: t ∧ e.2.2 = b_doc (l ++ x0 :: t) ∧ (∀ f ∈ l, f.2.1 ≠ s) ∧ x0.2.1 = s ∧ c = (e.1, e.2.1, l, t) :: c2 ∧ ((r = [] ∧ c2 = [] ∧ x0 = x) ∨ (r ≠ [] ∧ U_cx x r x0 c2))
theorem U_cx_of {x : b_E} : ∀ (st : List (List Int)) (D : Nat) (e : b_E), b_gv D e.1 e.2.2 → e.1 = 3 → V_res st (b_ch e.2.2) = some (x, []) → ∃ c, U_cx x st e c ∧ c.length = st.length := by
  intro st
  induction st with
  | nil => exact fun D e _ _ h => absurd h (by simp [V_res])
  | cons s r ih =>
    intro D e hg hk hv
    obtain ⟨e0, hf, hcs⟩ := V_res_step hv
    obtain ⟨l, t, l1, l2, l3, l4, l5⟩ := L_fn_split hf
    obtain ⟨D1, es, e1, e2, e3, e4, e5, e6, e7⟩ := b_gv_doc hg (Or.inl hk)
    rw [e7] at l1 hf
    have hge := e5 e0 (L_fn_mem hf).1
    rcases hcs with ⟨rfl, rfl⟩ | ⟨hr, h3, hv2⟩
    · exact ⟨[(e.1, e.2.1, l, t)], ⟨l, t, e0, [], hk, by rw [e7, l1], by rw [e2, l1], l5, l2, rfl, Or.inl ⟨rfl, rfl, rfl⟩⟩, rfl⟩
    · obtain ⟨c2, hc2, hl2⟩ := ih D1 e0 hge.2 h3 hv2
      exact ⟨(e.1, e.2.1, l, t) :: c2, ⟨l, t, e0, c2, hk, by rw [e7, l1], by rw [e2, l1], l5, l2, rfl, Or.inr ⟨hr, hc2⟩⟩, by rw [List.length_cons, List.length_cons, hl2]⟩
theorem U_cx_fwd {x : b_E} {B : Int → Int} : ∀ (st : List (List Int)) (e : b_E) (c : List h_F) (p : Int), U_cx x st e c → b_at B p (b_el e.1 e.2.1 e.2.2) → h_Z B (b_el x.1 x.2.1 x.2.2).length p c ∧ b_at B (h_at p c) (b_el x.1 x.2.1 x.2.2) ∧ h_hs (b_el x.1 x.2.1 x.2.2).length c = (b_el e.1 e.2.1 e.2.2).length := by
  intro st
  induction st with
  | nil => exact fun _ _ _ h => h.elim
  | cons s r ih =>
    intro e c p hc hb
    obtain ⟨l, t, x0, c2, h1, h2, h3, h4, h5, h6, h7⟩ := hc
    have hz := (h_Z_one (B := B) (f := (e.1, e.2.1, l, t)) (p := p) (mid := [x0])).mpr (by
      show b_at B p (b_el e.1 e.2.1 (b_doc (l ++ [x0] ++ t)))
      rw [show l ++ [x0] ++ t = l ++ x0 :: t by simp, ← h3]
      exact hb)
    have hh := h_hs_one (f := (e.1, e.2.1, l, t)) (mid := [x0])
    rw [b_ser_1] at hz hh
    have hh2 : h_hs (b_el x0.1 x0.2.1 x0.2.2).length [(e.1, e.2.1, l, t)] = (b_el e.1 e.2.1 e.2.2).length := by
      rw [hh]
      show (b_el e.1 e.2.1 (b_doc (l ++ [x0] ++ t))).length = _
      rw [show l ++ [x0] ++ t = l ++ x0 :: t by simp, ← h3]
    rw [h6]
    rcases h7 with ⟨-, rfl, rfl⟩ | ⟨hr, h8⟩
    · exact ⟨hz.1, hz.2, hh2⟩
    · obtain ⟨a1, a2, a3⟩ := ih x0 c2 (h_q p (e.1, e.2.1, l, t)) h8 hz.2
      refine ⟨h_Z_cons.mpr ⟨by rw [a3]; exact hz.1, a1⟩, a2, ?_⟩
      rw [h_hs_cons, a3]
      exact hh2
theorem U_cx_bwd {x it : b_E} {B : Int → Int} : ∀ (st : List (List Int)) (e : b_E) (c : List h_F) (p : Int), U_cx x st e c → h_Z B (b_el it.1 x.2.1 it.2.2).length p c → b_at B (h_at p c) (b_el it.1 x.2.1 it.2.2) → b_at B p (b_el e.1 e.2.1 (b_doc (U_put st it (b_ch e.2.2)))) ∧ h_hs (b_el it.1 x.2.1 it.2.2).length c = (b_el e.1 e.2.1 (b_doc (U_put st it (b_ch e.2.2)))).length := by
  intro st
  induction st with
  | nil => exact fun _ _ _ h => h.elim
  | cons s r ih =>
    intro e c p hc hZ hb
    obtain ⟨l, t, x0, c2, h1, h2, h3, h4, h5, h6, h7⟩ := hc
    have hf : L_fn s (b_ch e.2.2) = some x0 := by
      rw [h2]
      have := L_find_fn s (l ++ x0 :: t) 0
      rw [L_find_app l x0 t 0 h4 h5] at this
      exact this.symm
    obtain ⟨l', t', l1, l2, l3, l4, l5⟩ := L_fn_split hf
    have hrep : ∀ w : b_E, X_rep s w (b_ch e.2.2) = l ++ w :: t := by
      intro w
      rw [h2]
      clear hf l1 l2 l3 l4 l5 h3 hZ hb h6 h7 h2
      induction l with
      | nil =>
        show X_rep s w (x0 :: t) = w :: t
        show (if x0.2.1 = s then w :: t else x0 :: X_rep s w t) = _
        rw [if_pos h5]
      | cons f l ihl =>
        show (if f.2.1 = s then w :: (l ++ x0 :: t) else f :: X_rep s w (l ++ x0 :: t)) = _
        rw [if_neg (h4 f List.mem_cons_self), ihl fun g hg => h4 g (List.mem_cons_of_mem _ hg)]
        rfl
    rw [U_put_cons hf, hrep]
    rw [h6] at hZ hb
    have hfin : ∀ w : b_E, h_Z B (b_el w.1 w.2.1 w.2.2).length p [(e.1, e.2.1, l, t)] → b_at B (h_q p (e.1, e.2.1, l, t)) (b_el w.1 w.2.1 w.2.2) → b_at B p (b_el e.1 e.2.1 (b_doc (l ++ w :: t))) ∧ h_hs (b_el w.1 w.2.1 w.2.2).length [(e.1, e.2.1, l, t)] = (b_el e.1 e.2.1 (b_doc (l ++ w :: t))).length := by
      intro w k1 k2
      have hh := h_hs_one (f := (e.1, e.2.1, l, t)) (mid := [w])
      rw [b_ser_1] at hh
      have := (h_Z_one (B := B) (f := (e.1, e.2.1, l, t)) (p := p) (mid := [w])).mp (by rw [b_ser_1]; exact ⟨k1, k2⟩)
      have h9 : b_at B p (b_el e.1 e.2.1 (b_doc (l ++ [w] ++ t))) := this
      have hh2 : h_hs (b_el w.1 w.2.1 w.2.2).length [(e.1, e.2.1, l, t)] = (b_el e.1 e.2.1 (b_doc (l ++ [w] ++ t))).length := hh
      rw [show l ++ [w] ++ t = l ++ w :: t by simp] at h9 hh2
      exact ⟨h9, hh2⟩
    rcases h7 with ⟨rfl, rfl, rfl⟩ | ⟨hr, h8⟩
    · rw [if_pos (show ([] : List (List Int)).isEmpty = true from rfl)]
      rw [← h5]
      rw [h6]
      exact hfin (it.1, x0.2.1, it.2.2) hZ hb
    · rw [if_neg (by cases r with | nil => exact absurd rfl hr | cons _ _ => simp)]
      obtain ⟨z1, z2⟩ := h_Z_cons.mp hZ
      obtain ⟨h9, h10⟩ := ih x0 c2 (h_q p (e.1, e.2.1, l, t)) h8 z2 hb
      rw [h6, h_hs_cons, h10]
      refine hfin (x0.1, x0.2.1, b_doc (U_put r it (b_ch x0.2.2))) ?_ h9
      rw [h10] at z1
      exact z1
theorem U_cx_rep {x0 : b_E} {s : List Int} (w : b_E) : ∀ (l t : List b_E), (∀ f ∈ l, f.2.1 ≠ s) → x0.2.1 = s → X_rep s w (l ++ x0 :: t) = l ++ w :: t := by
  intro l
  induction l with
  | nil =>
    intro t _ h5
    show (if x0.2.1 = s then w :: t else x0 :: X_rep s w t) = _
    rw [if_pos h5]
    rfl
  | cons f l ihl =>
    intro t h4 h5
    show (if f.2.1 = s then w :: (l ++ x0 :: t) else f :: X_rep s w (l ++ x0 :: t)) = _
    rw [if_neg (h4 f List.mem_cons_self), ihl t (fun g hg => h4 g (List.mem_cons_of_mem _ hg)) h5]
    rfl
theorem U_cx_len {x it : b_E} : ∀ (st : List (List Int)) (e : b_E) (c : List h_F), U_cx x st e c → h_hs (b_el it.1 x.2.1 it.2.2).length c = (b_el e.1 e.2.1 (b_doc (U_put st it (b_ch e.2.2)))).length := by
  intro st
  induction st with
  | nil => exact fun _ _ h => h.elim
  | cons s r ih =>
    intro e c hc
    obtain ⟨l, t, x0, c2, h1, h2, h3, h4, h5, h6, h7⟩ := hc
    have hf : L_fn s (b_ch e.2.2) = some x0 := by
      rw [h2]
      have := L_find_fn s (l ++ x0 :: t) 0
      rw [L_find_app l x0 t 0 h4 h5] at this
      exact this.symm
    have hfin : ∀ w : b_E, h_hs (b_el w.1 w.2.1 w.2.2).length [(e.1, e.2.1, l, t)] = (b_el e.1 e.2.1 (b_doc (l ++ w :: t))).length := by
      intro w
      have hh := h_hs_one (f := (e.1, e.2.1, l, t)) (mid := [w])
      rw [b_ser_1] at hh
      have hh2 : h_hs (b_el w.1 w.2.1 w.2.2).length [(e.1, e.2.1, l, t)] = (b_el e.1 e.2.1 (b_doc (l ++ [w] ++ t))).length := hh
      rwa [show l ++ [w] ++ t = l ++ w :: t by simp] at hh2
    rw [U_put_cons hf, h6, h2, U_cx_rep _ l t h4 h5]
    rcases h7 with ⟨rfl, rfl, rfl⟩ | ⟨hr, h8⟩
    · rw [if_pos (show ([] : List (List Int)).isEmpty = true from rfl), ← h5]
      exact hfin (it.1, x0.2.1, it.2.2)
    · rw [if_neg (by cases r with | nil => exact absurd rfl hr | cons _ _ => simp), h_hs_cons, ih x0 c2 h8]
      exact hfin (x0.1, x0.2.1, b_doc (U_put r it (b_ch x0.2.2)))
