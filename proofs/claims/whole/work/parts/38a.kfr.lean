/-! THE FRAME OF A CALL: cells that nothing of a call's own reaches stay as they are -/
/-- a value that leads to a cell that is there, and to none of K -/
def zk_vok (K : Nat → Prop) (n : Nat) (v : Value) : Prop := match v with
  | .ref r => (r : Nat) % 2 = 0 → (r : Nat) / 2 < n ∧ ¬ K ((r : Nat) / 2)
  | _ => True
def zk_eok (K : Nat → Prop) (n : Nat) (e : q_E) : Prop := match e with
  | .inl (_, _, .inl _) => True
  | .inl (_, _, .inr L) => ∀ j b, q_lr L j = some b → zk_vok K n (.ref b)
  | .inr (_, fs) => ∀ v ∈ fs, zk_vok K n v
def zk_vs (K : Nat → Prop) (n : Nat) (st : List Value) : Prop := ∀ v ∈ st, zk_vok K n v
def zk_lv (K : Nat → Prop) (n : Nat) (lv : q_L) : Prop := ∀ q ∈ lv, zk_vok K n q.2
def zk_hok (K : Nat → Prop) (E : q_H) : Prop := ∀ (i : Nat) (e : q_E), E[i]? = some e → ¬ K i → zk_eok K E.length e
def zk_in (K : Nat → Prop) (E : q_H) : Prop := ∀ i, K i → i < E.length
def zk_J (K : Nat → Prop) (E E' : q_H) : Prop := E.length ≤ E'.length ∧ ∀ i, K i → E'[i]? = E[i]?
def zk_R (K : Nat → Prop) (E : q_H) (lv : q_L) (st : List Value) (E' : q_H) : Prop := zk_lv K E'.length lv ∧ zk_vs K E'.length st ∧ zk_hok K E' ∧ zk_in K E' ∧ zk_J K E E'
section KFR
variable {K : Nat → Prop} {n : Nat} {lv : q_L} {st r : List Value} {E : q_H} {v w : Value}
theorem zk_vok.up {n2 : Nat} (h : zk_vok K n v) (hn : n ≤ n2) : zk_vok K n2 v := by
  cases v with
  | ref r => exact fun hr => ⟨Nat.lt_of_lt_of_le (h hr).1 hn, (h hr).2⟩
  | _ => trivial
theorem zk_eok.up {n2 : Nat} {e : q_E} (h : zk_eok K n e) (hn : n ≤ n2) : zk_eok K n2 e := by
  rcases e with ⟨t, l, L | L⟩ | ⟨c, fs⟩
  · trivial
  · exact fun j b hb => (h j b hb).up hn
  · exact fun x hx => zk_vok.up (h x hx) hn
theorem zk_t (h : zk_vs K n (v :: r)) : zk_vs K n r := fun x hx => h x (List.mem_cons_of_mem _ hx)
theorem zk_h (h : zk_vs K n (v :: r)) : zk_vok K n v := h v List.mem_cons_self
theorem zk_c (h : zk_vok K n v) (h2 : zk_vs K n r) : zk_vs K n (v :: r) := fun x hx => by
  rcases List.mem_cons.mp hx with e | e
  · rw [e]
    exact h
  · exact h2 x e
theorem zk_f (hl : zk_lv K E.length lv) (hs : zk_vs K E.length st) (hE : zk_hok K E) (hN : zk_in K E) : zk_R K E lv st E := ⟨hl, hs, hE, hN, Nat.le_refl _, fun _ _ => rfl⟩
theorem zk_ldc {o idx : Nat} (h : q_ldc o idx = some v) : zk_vok K n v := by
  unfold q_ldc at h
  split at h
  · cases h
    trivial
  · obtain ⟨q, -, hq⟩ := Option.map_eq_some_iff.mp h
    rw [← hq]
    intro h2
    have h3 : (2 * (2 * q.2) + 1) % 2 = 0 := h2
    omega
theorem zk_get {i : Nat} (hl : zk_lv K n lv) (h : q_get lv i = some v) : zk_vok K n v := by
  unfold q_get at h
  obtain ⟨q, hq, hv⟩ := Option.map_eq_some_iff.mp h
  rw [← hv]
  exact hl q (List.mem_of_find?_eq_some hq)
theorem zk_geta {i : Nat} (hl : zk_lv K n lv) (h : q_geta lv i = some v) : zk_vok K n v := by
  unfold q_geta at h
  split at h
  · rename_i h1
    cases h
    exact zk_get hl h1
  · rename_i h1
    cases h
    exact zk_get hl h1
  · cases h
theorem zk_set {i : Nat} (hl : zk_lv K n lv) (h : zk_vok K n v) : zk_lv K n (q_set lv i v) := fun q hq => by
  rcases List.mem_cons.mp hq with e | e
  · rw [e]
    exact h
  · exact hl q (List.mem_filter.mp e).1
theorem zk_setl {i : Nat} {x : Int64} (hl : zk_lv K n lv) : zk_lv K n (q_setl lv i x) := fun q hq => by
  rcases List.mem_cons.mp hq with e | e
  · rw [e]
    trivial
  · exact hl q (List.mem_filter.mp e).1
theorem zk_no {a : Nat} (h : zk_vok K n (.ref a)) (h2 : a = 2 * (a / 2)) : ¬ K (a / 2) := by
  have h3 : a % 2 = 0 → a / 2 < n ∧ ¬ K (a / 2) := h
  exact (h3 (by omega)).2
theorem zk_cell {a : Nat} {e : q_E} (hE : zk_hok K E) (h : zk_vok K n (.ref a)) (h2 : a = 2 * (a / 2) ∧ E[a / 2]? = some e) : zk_eok K E.length e := hE _ _ h2.2 (zk_no h h2.1)
theorem zk_w {i : Nat} {e : q_E} (hl : zk_lv K E.length lv) (hs : zk_vs K E.length st) (hE : zk_hok K E) (hN : zk_in K E) (hi : ¬ K i) (he : zk_eok K E.length e) : zk_R K E lv st (E.set i e) := by
  have hlen : (E.set i e).length = E.length := List.length_set
  unfold zk_R
  rw [hlen]
  refine ⟨hl, hs, fun j e2 hj hk => ?_, fun j hj => by rw [hlen]; exact hN j hj, by rw [hlen]; exact Nat.le_refl _, fun j hj => ?_⟩
  · rw [hlen]
    rw [List.getElem?_set] at hj
    split at hj
    · split at hj
      · cases hj
        exact he
      · cases hj
    · exact hE j e2 hj hk
  · rw [List.getElem?_set, if_neg]
    intro z
    rw [z] at hi
    exact hi hj
theorem zk_put {c k : Nat} {fs : List Value} (h : zk_vok K n v) (he : zk_eok K n (.inr (c, fs))) : zk_eok K n (.inr (c, fs.set k v)) := fun x hx => by
  rcases List.mem_or_eq_of_mem_set hx with e | e
  · exact he x e
  · rw [e]
    exact h
theorem zk_fget {c k : Nat} {fs : List Value} (he : zk_eok K n (.inr (c, fs))) (h : fs[k]? = some v) : zk_vok K n v := he v (List.mem_of_getElem? h)
theorem zk_sget {o idx a : Nat} (h : q_sget o idx a = some v) : zk_vok K n v := by
  unfold q_sget at h
  obtain ⟨h1, h2⟩ := q_if_s h
  simp only [Bool.and_eq_true, beq_iff_eq, decide_eq_true_eq] at h1
  split at h2
  · cases h2
    intro h3
    have h4 : (a + 2) % 2 = 0 := h3
    omega
  · split at h2
    · cases h2
      trivial
    · cases h2
theorem zk_lr {t l j : Nat} {L : List (Nat × Nat)} (he : zk_eok K n (.inl (t, l, .inr L))) : zk_vok K n (va_rf (q_lr L j)) := by
  cases h : q_lr L j with
  | none => trivial
  | some b => exact he j b h
theorem zk_ast {t l j a : Nat} {L : List (Nat × Nat)} (h : zk_vok K n (.ref a)) (he : zk_eok K n (.inl (t, l, .inr L))) : zk_eok K n (.inl (t, l, .inr ((j, a) :: L))) := fun i b hb => by
  rw [q_lr_up] at hb
  split at hb
  · cases hb
    exact h
  · exact he i b hb
theorem zk_n (hl : zk_lv K E.length lv) (hs : zk_vs K E.length st) (hE : zk_hok K E) (hN : zk_in K E) (l : q_H) (h0 : 0 < l.length) (he : ∀ e ∈ l, zk_eok K (E ++ l).length e) : zk_R K E lv (.ref (2 * E.length) :: st) (E ++ l) := by
  have hle : E.length ≤ (E ++ l).length := by
    rw [List.length_append]
    exact Nat.le_add_right _ _
  refine ⟨fun q hq => (hl q hq).up hle, zk_c ?_ fun x hx => (hs x hx).up hle, fun j e2 hj hk => ?_, fun j hj => Nat.lt_of_lt_of_le (hN j hj) hle, hle, fun j hj => List.getElem?_append_left (hN j hj)⟩
  · intro _
    show 2 * E.length / 2 < (E ++ l).length ∧ ¬ K (2 * E.length / 2)
    rw [Nat.mul_div_cancel_left _ (by decide), List.length_append]
    exact ⟨by omega, fun hK => Nat.lt_irrefl _ (hN _ hK)⟩
  · by_cases g : j < E.length
    · rw [List.getElem?_append_left g] at hj
      exact (hE j e2 hj hk).up hle
    · rw [List.getElem?_append_right (by omega)] at hj
      exact he e2 (List.mem_of_getElem? hj)
theorem zk_new {c l : Nat} {g : Nat → FieldType} : zk_eok K n (.inr (c, (List.range l).map fun j => defaultValue (g j))) := fun v hv => by
  obtain ⟨j, -, e⟩ := List.mem_map.mp hv
  rw [← e]
  cases g j <;> trivial
theorem zk_grid {N k : Nat} (hN : zk_in K E) : ∀ e ∈ q_grid E N k, zk_eok K (E ++ q_grid E N k).length e := fun e he => by
  have hln : (E ++ q_grid E N k).length = E.length + (N + 1) := by
    unfold q_grid
    rw [List.length_append, List.length_cons, List.length_replicate]
  rw [hln]
  unfold q_grid at he
  rcases List.mem_cons.mp he with h | h
  · rw [h]
    intro j b hb
    rw [q_lr_range] at hb
    split at hb
    · rename_i hj
      cases hb
      intro _
      show 2 * (E.length + 1 + j) / 2 < E.length + (N + 1) ∧ ¬ K (2 * (E.length + 1 + j) / 2)
      rw [Nat.mul_div_cancel_left _ (by decide)]
      exact ⟨by omega, fun hK => by have := hN _ hK; omega⟩
    · cases hb
  · rw [(List.mem_replicate.mp h).2]
    trivial
set_option maxHeartbeats 4000000 in
set_option maxRecDepth 20000 in
theorem zk_step {o nL len pc pc' dc ds : Nat} {ini : Bool} {ins : Instr} {lv' : q_L} {st' : List Value} {E' : q_H} (h : q_step o nL ini ins len pc lv st E = some (pc', lv', st', E', dc, ds)) (hl : zk_lv K E.length lv) (hs : zk_vs K E.length st) (hE : zk_hok K E) (hN : zk_in K E) : zk_R K E lv' st' E' := by
  unfold q_step at h
  split at h
  · have e1 := eq_of_beq (q_if_s h).1
    replace h := (q_if_s h).2
    subst e1
    cases h
    exact zk_f hl (zk_c trivial hs) hE hN
  · have e1 := eq_of_beq (q_if_s h).1
    replace h := (q_if_s h).2
    subst e1
    cases h
    exact zk_f hl (zk_c trivial hs) hE hN
  · have e1 := eq_of_beq (q_if_s h).1
    replace h := (q_if_s h).2
    subst e1
    cases h
    exact zk_f hl (zk_c trivial hs) hE hN
  · have e1 := eq_of_beq (q_if_s h).1
    replace h := (q_if_s h).2
    subst e1
    cases h
    exact zk_f hl (zk_c trivial hs) hE hN
  · have e1 := eq_of_beq (q_if_s h).1
    replace h := (q_if_s h).2
    subst e1
    obtain ⟨v, hv, h⟩ := q_bind_s h
    cases h
    exact zk_f hl (zk_c (zk_ldc hv) hs) hE hN
  · have e1 := eq_of_beq (q_if_s h).1
    replace h := (q_if_s h).2
    subst e1
    obtain ⟨v, hv, h⟩ := q_bind_s h
    cases h
    exact zk_f hl (zk_c (zk_ldc hv) hs) hE hN
  · have e1 := eq_of_beq (q_if_s h).1
    replace h := (q_if_s h).2
    subst e1
    obtain ⟨x, hv, h⟩ := q_bind_s h
    cases h
    exact zk_f hl (zk_c trivial hs) hE hN
  · have e1 := eq_of_beq (q_if_s h).1
    replace h := (q_if_s h).2
    subst e1
    obtain ⟨x, hv, h⟩ := q_bind_s h
    cases h
    exact zk_f hl (zk_c trivial hs) hE hN
  · have e1 := eq_of_beq (q_if_s h).1
    replace h := (q_if_s h).2
    subst e1
    obtain ⟨v, hv, h⟩ := q_bind_s h
    cases h
    exact zk_f hl (zk_c (zk_geta hl hv) hs) hE hN
  · have e1 := eq_of_beq (q_if_s h).1
    replace h := (q_if_s h).2
    subst e1
    obtain ⟨v, hv, h⟩ := q_bind_s h
    cases h
    exact zk_f hl (zk_c (zk_geta hl hv) hs) hE hN
  · have e1 := eq_of_beq (q_if_s h).1
    replace h := (q_if_s h).2
    subst e1
    obtain ⟨e2, h⟩ := q_if_s h
    obtain ⟨x, r, rfl, h⟩ := q_p1_s h
    simp only [q_fc_eq, q_nf_eq] at h
    cases h
    exact zk_f (zk_set hl trivial) (zk_t hs) hE hN
  · have e1 := eq_of_beq (q_if_s h).1
    replace h := (q_if_s h).2
    subst e1
    obtain ⟨e2, h⟩ := q_if_s h
    obtain ⟨x, r, rfl, h⟩ := q_p1_s h
    simp only [q_fc_eq, q_nf_eq] at h
    cases h
    exact zk_f (zk_set hl trivial) (zk_t hs) hE hN
  · have e1 := eq_of_beq (q_if_s h).1
    replace h := (q_if_s h).2
    subst e1
    obtain ⟨e2, h⟩ := q_if_s h
    obtain ⟨v, r, rfl, hv, h⟩ := q_pa_s h
    simp only [q_fc_eq, q_nf_eq] at h
    cases h
    exact zk_f (zk_set hl (zk_h hs)) (zk_t hs) hE hN
  · have e1 := eq_of_beq (q_if_s h).1
    replace h := (q_if_s h).2
    subst e1
    obtain ⟨e2, h⟩ := q_if_s h
    obtain ⟨v, r, rfl, hv, h⟩ := q_pa_s h
    simp only [q_fc_eq, q_nf_eq] at h
    cases h
    exact zk_f (zk_set hl (zk_h hs)) (zk_t hs) hE hN
  · rename_i i n
    have e1 := eq_of_beq (q_if_s h).1
    replace h := (q_if_s h).2
    subst e1
    obtain ⟨e2, h⟩ := q_if_s h
    obtain ⟨x, hv, h⟩ := q_bind_s h
    simp only [q_fc_eq, q_nf_eq] at h
    cases h
    exact zk_f (zk_set hl trivial) hs hE hN
  · have e1 := eq_of_beq (q_if_s h).1
    replace h := (q_if_s h).2
    subst e1
    obtain ⟨x, y, r, rfl, h⟩ := q_p2_s h
    cases h
    exact zk_f hl (zk_c trivial (zk_t (zk_t hs))) hE hN
  · have e1 := eq_of_beq (q_if_s h).1
    replace h := (q_if_s h).2
    subst e1
    obtain ⟨x, y, r, rfl, h⟩ := q_p2_s h
    cases h
    exact zk_f hl (zk_c trivial (zk_t (zk_t hs))) hE hN
  · have e1 := eq_of_beq (q_if_s h).1
    replace h := (q_if_s h).2
    subst e1
    obtain ⟨x, y, r, rfl, h⟩ := q_p2_s h
    cases h
    exact zk_f hl (zk_c trivial (zk_t (zk_t hs))) hE hN
  · have e1 := eq_of_beq (q_if_s h).1
    replace h := (q_if_s h).2
    subst e1
    obtain ⟨x, y, r, rfl, h⟩ := q_p2_s h
    cases h
    exact zk_f hl (zk_c trivial (zk_t (zk_t hs))) hE hN
  · have e1 := eq_of_beq (q_if_s h).1
    replace h := (q_if_s h).2
    subst e1
    obtain ⟨x, y, r, rfl, h⟩ := q_p2_s h
    cases h
    exact zk_f hl (zk_c trivial (zk_t (zk_t hs))) hE hN
  · have e1 := eq_of_beq (q_if_s h).1
    replace h := (q_if_s h).2
    subst e1
    obtain ⟨x, y, r, rfl, h⟩ := q_p2_s h
    cases h
    exact zk_f hl (zk_c trivial (zk_t (zk_t hs))) hE hN
  · have e1 := eq_of_beq (q_if_s h).1
    replace h := (q_if_s h).2
    subst e1
    obtain ⟨x, y, r, rfl, h⟩ := q_p2_s h
    cases h
    exact zk_f hl (zk_c trivial (zk_t (zk_t hs))) hE hN
  · have e1 := eq_of_beq (q_if_s h).1
    replace h := (q_if_s h).2
    subst e1
    obtain ⟨x, y, r, rfl, h⟩ := q_p2_s h
    cases h
    exact zk_f hl (zk_c trivial (zk_t (zk_t hs))) hE hN
  · have e1 := eq_of_beq (q_if_s h).1
    replace h := (q_if_s h).2
    subst e1
    obtain ⟨x, y, r, rfl, h⟩ := q_p2_s h
    obtain ⟨e2, h⟩ := q_if_s h
    cases h
    exact zk_f hl (zk_c trivial (zk_t (zk_t hs))) hE hN
  · have e1 := eq_of_beq (q_if_s h).1
    replace h := (q_if_s h).2
    subst e1
    obtain ⟨x, y, r, rfl, h⟩ := q_p2_s h
    obtain ⟨e2, h⟩ := q_if_s h
    cases h
    exact zk_f hl (zk_c trivial (zk_t (zk_t hs))) hE hN
  · have e1 := eq_of_beq (q_if_s h).1
    replace h := (q_if_s h).2
    subst e1
    obtain ⟨x, r, rfl, h⟩ := q_p1_s h
    cases h
    exact zk_f hl (zk_c trivial (zk_t hs)) hE hN
  · have e1 := eq_of_beq (q_if_s h).1
    replace h := (q_if_s h).2
    subst e1
    obtain ⟨v, r, rfl, hv, h⟩ := q_t1_s h
    cases h
    exact zk_f hl (zk_c (zk_h hs) hs) hE hN
  · have e1 := eq_of_beq (q_if_s h).1
    replace h := (q_if_s h).2
    subst e1
    obtain ⟨v, r, rfl, hv, h⟩ := q_t1_s h
    cases h
    exact zk_f hl (zk_t hs) hE hN
  · have e1 := eq_of_beq (q_if_s h).1
    replace h := (q_if_s h).2
    subst e1
    obtain ⟨v, r, rfl, hv, h⟩ := q_t1_s h
    obtain ⟨w, r, rfl, hw2, h⟩ := q_t1_s h
    cases h
    exact zk_f hl (zk_c (zk_h hs) (zk_c (zk_h (zk_t hs)) (zk_c (zk_h hs) (zk_t (zk_t hs))))) hE hN
  · have e1 := eq_of_beq (q_if_s h).1
    replace h := (q_if_s h).2
    subst e1
    obtain ⟨t, ht, h⟩ := q_bind_s h
    cases h
    exact zk_f hl hs hE hN
  · rename_i cd off
    have e1 := eq_of_beq (q_if_s h).1
    replace h := (q_if_s h).2
    subst e1
    obtain ⟨x, r, rfl, h⟩ := q_p1_s h
    obtain ⟨t, ht, h⟩ := q_bind_s h
    cases h
    exact zk_f hl (zk_t hs) hE hN
  · rename_i cd off
    have e1 := eq_of_beq (q_if_s h).1
    replace h := (q_if_s h).2
    subst e1
    obtain ⟨x, y, r, rfl, h⟩ := q_p2_s h
    obtain ⟨t, ht, h⟩ := q_bind_s h
    cases h
    exact zk_f hl (zk_t (zk_t hs)) hE hN
  · rename_i d lo hi offs
    obtain ⟨x, r, rfl, h2⟩ := q_p1_s h
    by_cases g : x.toInt < lo ∨ hi < x.toInt
    · rw [show (decide (x.toInt < lo) || decide (hi < x.toInt)) = true by simpa using g] at h2
      obtain ⟨t, ht, h⟩ := q_bind_s (show _ = some _ from h2)
      cases h
      exact zk_f hl (zk_t hs) hE hN
    · rw [show (decide (x.toInt < lo) || decide (hi < x.toInt)) = false by simpa [not_or] using g] at h2
      obtain ⟨off, ho, h⟩ := q_bind_s (show _ = some _ from h2)
      obtain ⟨t, ht, h⟩ := q_bind_s h
      cases h
      exact zk_f hl (zk_t hs) hE hN
  · have e1 := eq_of_beq (q_if_s h).1
    replace h := (q_if_s h).2
    subst e1
    cases h
    exact zk_f hl (zk_c trivial hs) hE hN
  · have e1 := eq_of_beq (q_if_s h).1
    replace h := (q_if_s h).2
    subst e1
    obtain ⟨v, hv, h⟩ := q_bind_s h
    cases h
    exact zk_f hl (zk_c trivial hs) hE hN
  · have e1 := eq_of_beq (q_if_s h).1
    replace h := (q_if_s h).2
    subst e1
    obtain ⟨x, hv, h⟩ := q_bind_s h
    cases h
    exact zk_f hl (zk_c trivial hs) hE hN
  · have e1 := eq_of_beq (q_if_s h).1
    replace h := (q_if_s h).2
    subst e1
    obtain ⟨x, hv, h⟩ := q_bind_s h
    cases h
    exact zk_f hl (zk_c trivial hs) hE hN
  · have e1 := eq_of_beq (q_if_s h).1
    replace h := (q_if_s h).2
    subst e1
    obtain ⟨e2, h⟩ := q_if_s h
    obtain ⟨x, r, rfl, h⟩ := q_l1_s h
    simp only [q_fc_eq, q_nf_eq] at h
    cases h
    exact zk_f (zk_setl hl) (zk_t hs) hE hN
  · have e1 := eq_of_beq (q_if_s h).1
    replace h := (q_if_s h).2
    subst e1
    obtain ⟨e2, h⟩ := q_if_s h
    obtain ⟨x, r, rfl, h⟩ := q_l1_s h
    simp only [q_fc_eq, q_nf_eq] at h
    cases h
    exact zk_f (zk_setl hl) (zk_t hs) hE hN
  · have e1 := eq_of_beq (q_if_s h).1
    replace h := (q_if_s h).2
    subst e1
    obtain ⟨x, y, r, rfl, h⟩ := q_l2_s h
    cases h
    exact zk_f hl (zk_c trivial (zk_t (zk_t hs))) hE hN
  · have e1 := eq_of_beq (q_if_s h).1
    replace h := (q_if_s h).2
    subst e1
    obtain ⟨x, y, r, rfl, h⟩ := q_l2_s h
    cases h
    exact zk_f hl (zk_c trivial (zk_t (zk_t hs))) hE hN
  · have e1 := eq_of_beq (q_if_s h).1
    replace h := (q_if_s h).2
    subst e1
    obtain ⟨x, y, r, rfl, h⟩ := q_l2_s h
    cases h
    exact zk_f hl (zk_c trivial (zk_t (zk_t hs))) hE hN
  · have e1 := eq_of_beq (q_if_s h).1
    replace h := (q_if_s h).2
    subst e1
    obtain ⟨x, y, r, rfl, h⟩ := q_l2_s h
    cases h
    exact zk_f hl (zk_c trivial (zk_t (zk_t hs))) hE hN
  · have e1 := eq_of_beq (q_if_s h).1
    replace h := (q_if_s h).2
    subst e1
    obtain ⟨x, y, r, rfl, h⟩ := q_l2_s h
    cases h
    exact zk_f hl (zk_c trivial (zk_t (zk_t hs))) hE hN
  · have e1 := eq_of_beq (q_if_s h).1
    replace h := (q_if_s h).2
    subst e1
    obtain ⟨x, y, r, rfl, h⟩ := q_li_s h
    cases h
    exact zk_f hl (zk_c trivial (zk_t (zk_t hs))) hE hN
  · have e1 := eq_of_beq (q_if_s h).1
    replace h := (q_if_s h).2
    subst e1
    obtain ⟨x, y, r, rfl, h⟩ := q_li_s h
    cases h
    exact zk_f hl (zk_c trivial (zk_t (zk_t hs))) hE hN
  · have e1 := eq_of_beq (q_if_s h).1
    replace h := (q_if_s h).2
    subst e1
    obtain ⟨x, r, rfl, h⟩ := q_p1_s h
    cases h
    exact zk_f hl (zk_c trivial (zk_t hs)) hE hN
  · have e1 := eq_of_beq (q_if_s h).1
    replace h := (q_if_s h).2
    subst e1
    obtain ⟨x, r, rfl, h⟩ := q_l1_s h
    cases h
    exact zk_f hl (zk_c trivial (zk_t hs)) hE hN
  · have e1 := eq_of_beq (q_if_s h).1
    replace h := (q_if_s h).2
    subst e1
    obtain ⟨x, r, rfl, h⟩ := q_p1_s h
    cases h
    exact zk_f hl (zk_c trivial (zk_t hs)) hE hN
  · have e1 := eq_of_beq (q_if_s h).1
    replace h := (q_if_s h).2
    subst e1
    obtain ⟨v, r, rfl, hv, h⟩ := q_t1_s h
    obtain ⟨w, r, rfl, hw2, h⟩ := q_t1_s h
    cases h
    exact zk_f hl (zk_c (zk_h hs) (zk_c (zk_h (zk_t hs)) hs)) hE hN
  · rename_i d ps
    have e1 := (q_if_s h).1
    replace h := (q_if_s h).2
    obtain ⟨x, r, rfl, h⟩ := q_p1_s h
    obtain ⟨t, ht, h⟩ := q_bind_s h
    cases h
    exact zk_f hl (zk_t hs) hE hN
  · have e1 := eq_of_beq (q_if_s h).1
    replace h := (q_if_s h).2
    subst e1
    obtain ⟨v, r, rfl, hv, h⟩ := q_pa_s h
    obtain ⟨t, ht, h⟩ := q_bind_s h
    cases h
    exact zk_f hl (zk_t hs) hE hN
  · have e1 := eq_of_beq (q_if_s h).1
    replace h := (q_if_s h).2
    subst e1
    obtain ⟨v, r, rfl, hv, h⟩ := q_pa_s h
    obtain ⟨t, ht, h⟩ := q_bind_s h
    cases h
    exact zk_f hl (zk_t hs) hE hN
  · rename_i cd off
    have e1 := eq_of_beq (q_if_s h).1
    replace h := (q_if_s h).2
    subst e1
    obtain ⟨u, v, r, rfl, h⟩ := q_prr_s h
    have e2 := (q_if_s h).1
    have h3 := (q_if_s h).2
    clear h
    simp only [Bool.and_eq_true, decide_eq_true_eq, beq_iff_eq] at e2
    obtain ⟨⟨rfl, e3⟩, e4⟩ := e2
    obtain ⟨t, ht, h⟩ := q_bind_s h3
    cases h
    exact zk_f hl (zk_t (zk_t hs)) hE hN
  · have e1 := eq_of_beq (q_if_s h).1
    replace h := (q_if_s h).2
    subst e1
    have e2 := (q_if_s h).1
    replace h := (q_if_s h).2
    cases h
    exact zk_f hl (zk_c trivial hs) hE hN
  · have e1 := eq_of_beq (q_if_s h).1
    replace h := (q_if_s h).2
    subst e1
    obtain ⟨x, r, rfl, h⟩ := q_p1_s h
    cases h
    exact zk_f hl (zk_c trivial (zk_t hs)) hE hN
  · have e1 := eq_of_beq (q_if_s h).1
    replace h := (q_if_s h).2
    subst e1
    obtain ⟨a, r, rfl, h⟩ := q_pr_s h
    rcases q_el_s h with h | h
    · obtain ⟨v, hv, h⟩ := q_bind_s h
      cases h
      exact zk_f hl (zk_c (zk_sget hv) (zk_t hs)) hE hN
    obtain ⟨q, hq, h⟩ := q_bind_s h
    obtain ⟨fs, hf, h⟩ := q_bind_s h
    obtain ⟨v, hv, h⟩ := q_bind_s h
    cases h
    exact zk_f hl (zk_c (zk_fget (zk_cell hE (zk_h hs) (q_obj_s hf)) hv) (zk_t hs)) hE hN
  · have e1 := eq_of_beq (q_if_s h).1
    replace h := (q_if_s h).2
    subst e1
    obtain ⟨v, a, r, rfl, h⟩ := q_pv_s h
    obtain ⟨q, hq, h⟩ := q_bind_s h
    obtain ⟨fs, hf, h⟩ := q_bind_s h
    obtain ⟨e2, h⟩ := q_if_s h
    simp only [q_fc_eq, q_nf_eq] at h
    cases h
    exact zk_w hl (zk_t (zk_t hs)) hE hN (zk_no (zk_h (zk_t hs)) (q_obj_s hf).1) (zk_put (zk_h hs) (zk_cell hE (zk_h (zk_t hs)) (q_obj_s hf)))
  · have e1 := eq_of_beq (q_if_s h).1
    replace h := (q_if_s h).2
    subst e1
    obtain ⟨a, r, rfl, h⟩ := q_pr_s h
    rcases q_el_s h with h | h
    · obtain ⟨v, hv, h⟩ := q_bind_s h
      cases h
      exact zk_f hl (zk_c trivial (zk_t hs)) hE hN
    obtain ⟨n, hn, h⟩ := q_bind_s h
    cases h
    exact zk_f hl (zk_c trivial (zk_t hs)) hE hN
  · have e1 := eq_of_beq (q_if_s h).1
    replace h := (q_if_s h).2
    subst e1
    obtain ⟨i, a, r, rfl, h⟩ := q_pir_s h
    rcases q_el_s h with h | h
    · obtain ⟨v, hv, h⟩ := q_bind_s h
      have e4 := (q_if_s h).1
      replace h := (q_if_s h).2
      cases h
      exact zk_f hl (zk_c trivial (zk_t (zk_t hs))) hE hN
    obtain ⟨q, hq, h⟩ := q_bind_s h
    obtain ⟨e2, h⟩ := q_if_s h
    cases h
    exact zk_f hl (zk_c trivial (zk_t (zk_t hs))) hE hN
  · have e1 := eq_of_beq (q_if_s h).1
    replace h := (q_if_s h).2
    subst e1
    obtain ⟨i, a, r, rfl, h⟩ := q_pir_s h
    obtain ⟨q, hq, h⟩ := q_bind_s h
    obtain ⟨e2, h⟩ := q_if_s h
    cases h
    exact zk_f hl (zk_c trivial (zk_t (zk_t hs))) hE hN
  · have e1 := eq_of_beq (q_if_s h).1
    replace h := (q_if_s h).2
    subst e1
    obtain ⟨x, i, a, r, rfl, h⟩ := q_piir_s h
    obtain ⟨q, hq, h⟩ := q_bind_s h
    obtain ⟨e2, h⟩ := q_if_s h
    by_cases g : (q.1 == 2 && q_lk q.2.2 i.toNatClampNeg == (x &&& 1)) = true
    · rw [g] at h
      have h3 := Option.some.inj (show some _ = some _ from h)
      cases h3
      exact zk_f hl (zk_t (zk_t (zk_t hs))) hE hN
    rw [show (q.1 == 2 && q_lk q.2.2 i.toNatClampNeg == (x &&& 1)) = false by simpa using g] at h
    replace h : _ = some _ := (show q_fc _ _ = some _ from h)
    simp only [q_fc_eq, q_nf_eq] at h
    cases h
    exact zk_w hl (zk_t (zk_t (zk_t hs))) hE hN (zk_no (zk_h (zk_t (zk_t hs))) (q_arr_s hq).1) trivial
  · have e1 := eq_of_beq (q_if_s h).1
    replace h := (q_if_s h).2
    subst e1
    obtain ⟨x, i, a, r, rfl, h⟩ := q_piir_s h
    obtain ⟨q, hq, h⟩ := q_bind_s h
    obtain ⟨e2, h⟩ := q_if_s h
    simp only [q_fc_eq, q_nf_eq] at h
    cases h
    exact zk_w hl (zk_t (zk_t (zk_t hs))) hE hN (zk_no (zk_h (zk_t (zk_t hs))) (q_arr_s hq).1) trivial
  · have e1 := eq_of_beq (q_if_s h).1
    replace h := (q_if_s h).2
    subst e1
    obtain ⟨i, a, r, rfl, h⟩ := q_pir_s h
    obtain ⟨q, hq, h⟩ := q_bind_s h
    obtain ⟨e2, h⟩ := q_if_s h
    cases h
    exact zk_f hl (zk_c (zk_lr (zk_cell hE (zk_h (zk_t hs)) (q_arrR_s hq))) (zk_t (zk_t hs))) hE hN
  · have e1 := eq_of_beq (q_if_s h).1
    replace h := (q_if_s h).2
    subst e1
    obtain ⟨v, i, a, r, rfl, h⟩ := q_prir_s h
    obtain ⟨q, hq, h⟩ := q_bind_s h
    obtain ⟨ci, hci, h⟩ := q_bind_s h
    obtain ⟨fs, hf, h⟩ := q_bind_s h
    obtain ⟨e2, h⟩ := q_if_s h
    simp only [q_fc_eq, q_nf_eq] at h
    cases h
    exact zk_w hl (zk_t (zk_t (zk_t hs))) hE hN (zk_no (zk_h (zk_t (zk_t hs))) (q_arrR_s hq).1) (zk_ast (zk_h hs) (zk_cell hE (zk_h (zk_t (zk_t hs))) (q_arrR_s hq)))
  · have e1 := eq_of_beq (q_if_s h).1
    replace h := (q_if_s h).2
    subst e1
    obtain ⟨n, r, rfl, h⟩ := q_p1_s h
    obtain ⟨t, ht, h⟩ := q_bind_s h
    obtain ⟨e2, h⟩ := q_if_s h
    simp only [q_fc_eq, q_nf_eq] at h
    cases h
    exact zk_n hl (zk_t hs) hE hN [_] Nat.one_pos (fun e he => by rw [List.mem_singleton.mp he]; trivial)
  · have e1 := eq_of_beq (q_if_s h).1
    replace h := (q_if_s h).2
    subst e1
    obtain ⟨n, r, rfl, h⟩ := q_p1_s h
    obtain ⟨t, ht, h⟩ := q_bind_s h
    obtain ⟨e2, h⟩ := q_if_s h
    simp only [q_fc_eq, q_nf_eq] at h
    cases h
    exact zk_n hl (zk_t hs) hE hN [_] Nat.one_pos (fun e he => by rw [List.mem_singleton.mp he]; exact fun j b hb => by cases hb)
  · have e1 := eq_of_beq (q_if_s h).1
    replace h := (q_if_s h).2
    subst e1
    obtain ⟨q, hq, h⟩ := q_bind_s h
    simp only [q_fc_eq, q_nf_eq] at h
    cases h
    exact zk_n hl hs hE hN [_] Nat.one_pos (fun e he => by rw [List.mem_singleton.mp he]; exact zk_new)
  · have e1 := (q_if_s h).1
    replace h := (q_if_s h).2
    simp only [Bool.and_eq_true, beq_iff_eq] at e1
    obtain ⟨⟨e0, e4⟩, e3⟩ := e1
    subst e0
    subst e4
    obtain ⟨n, k, r, rfl, h⟩ := q_p2_s h
    have e2 := (q_if_s h).1
    replace h := (q_if_s h).2
    simp only [q_fc_eq, q_nf_eq] at h
    cases h
    exact zk_n hl (zk_t (zk_t hs)) hE hN _ (by unfold q_grid; exact Nat.succ_pos _) (zk_grid hN)
  · have e1 := eq_of_beq (q_if_s h).1
    replace h := (q_if_s h).2
    subst e1
    rcases q_el_s h with h | h
    · have e4 := (q_if_s h).1
      replace h := (q_if_s h).2
      obtain ⟨i, n, r, rfl, h⟩ := q_p2_s h
      have e5 := (q_if_s h).1
      replace h := (q_if_s h).2
      cases h
      exact zk_f hl (zk_t (zk_t hs)) hE hN
    rcases q_el_s h with h | h
    · obtain ⟨t, ht, h⟩ := q_bind_s h
      obtain ⟨x, y, r, rfl, h⟩ := q_p2_s h
      have e2 := (q_if_s h).1
      replace h := (q_if_s h).2
      cases h
      exact zk_f hl (zk_c trivial (zk_t (zk_t hs))) hE hN
    rcases q_el_s h with h | h
    · have e4 := (q_if_s h).1
      replace h := (q_if_s h).2
      obtain ⟨x, y, r, rfl, h⟩ := q_l2_s h
      have e2 := (q_if_s h).1
      replace h := (q_if_s h).2
      cases h
      exact zk_f hl (zk_c trivial (zk_t (zk_t hs))) hE hN
    have e4 := (q_if_s h).1
    replace h := (q_if_s h).2
    obtain ⟨n, dp, a, sp, a0, r, rfl, h⟩ := q_c5_s h
    obtain ⟨q0, hq0, h⟩ := q_bind_s h
    obtain ⟨q, hq, h⟩ := q_bind_s h
    have e2 := (q_if_s h).1
    replace h := (q_if_s h).2
    simp only [q_fc_eq, q_nf_eq] at h
    cases h
    exact zk_w hl (zk_t (zk_t (zk_t (zk_t (zk_t hs))))) hE hN (zk_no (zk_h (zk_t (zk_t hs))) (q_arr_s hq).1) trivial
  · have e1 := eq_of_beq (q_if_s h).1
    replace h := (q_if_s h).2
    subst e1
    obtain ⟨e2, h⟩ := q_if_s h
    obtain ⟨a, r, rfl, h⟩ := q_pr_s h
    obtain ⟨e3, h⟩ := q_if_s h
    cases h
    exact zk_f hl (zk_t hs) hE hN
  · cases h
/-- what comes of a call -/
def zk_X (K : Nat → Prop) (E : q_H) (x : q_X) : Prop := (∀ w, x.1 = some w → zk_vok K x.2.1.length w) ∧ zk_hok K x.2.1 ∧ zk_in K x.2.1 ∧ zk_J K E x.2.1
def zk_G (K : Nat → Prop) (call : Nat → List Value → q_H → Option q_X) : Prop := ∀ (y : Nat) (as : List Value) (E : q_H) (x : q_X), call y as E = some x → zk_vs K E.length as → zk_hok K E → zk_in K E → zk_X K E x
theorem zk_rets {ret : Option FieldType} {ins : Instr} {len : Nat} {u : Option Value} (h : q_rets ret ins len st = some u) (hs : zk_vs K n st) : ∀ w, u = some w → zk_vok K n w := by
  unfold q_rets at h
  split at h
  · replace h := (q_if_s h).2
    split at h
    · cases h
      intro w hw
      cases hw
    · cases h
  · replace h := (q_if_s h).2
    split at h
    · replace h := (q_if_s h).2
      cases h
      intro w hw
      cases hw
      trivial
    · cases h
  · replace h := (q_if_s h).2
    split at h
    · cases h
      intro w hw
      cases hw
      exact zk_h hs
    · cases h
      intro w hw
      cases hw
      trivial
    · cases h
      intro w hw
      cases hw
      exact zk_h hs
    · cases h
      intro w hw
      cases hw
      trivial
    · cases h
  · replace h := (q_if_s h).2
    split at h
    · cases h
      intro w hw
      cases hw
      trivial
    · cases h
  · cases h
theorem zk_cl {call : Nat → List Value → q_H → Option q_X} {o len dc ds : Nat} {ins : Instr} {rest : List Value} {u : Option Value} {E' : q_H} (hc : zk_G K call) (h : q_cl call o ins len st E = some (u, rest, E', dc, ds)) (hs : zk_vs K E.length st) (hE : zk_hok K E) (hN : zk_in K E) : zk_X K E (u, E', dc, ds) ∧ zk_vs K E.length rest := by
  unfold q_cl at h
  obtain ⟨ki, hki, hA⟩ := q_bind_s h
  clear h
  obtain ⟨q, hq, hB⟩ := q_bind_s hA
  clear hA
  simp only [q_nf_eq, q_fc_eq] at hB
  have h := (q_if_s hB).2
  clear hB
  have ha : zk_vs K E.length (st.take (q_na q.1)).reverse := fun x hx => hs x (List.mem_of_mem_take (List.mem_reverse.mp hx))
  have hd : zk_vs K E.length (st.drop (q_na q.1)) := fun x hx => hs x (List.mem_of_mem_drop hx)
  by_cases hk0 : (ki.1 == 0) = true
  · rw [hk0] at h
    have h2 := (q_if_s (show q_if _ _ = some _ from h)).2
    obtain ⟨x, hx1, hx2⟩ := Option.map_eq_some_iff.mp h2
    cases hx2
    exact ⟨hc _ _ _ _ hx1 ha hE hN, hd⟩
  · rw [show (ki.1 == 0) = false by simpa using hk0] at h
    obtain ⟨a, r, e, h3⟩ := q_pr_s (show q_pr _ _ = some _ from h)
    have h2 := (q_if_s h3).2
    obtain ⟨x, hx1, hx2⟩ := Option.map_eq_some_iff.mp h2
    cases hx2
    rw [e] at hd
    exact ⟨hc _ _ _ _ hx1 (zk_c (zk_h hd) ha) hE hN, zk_t hd⟩
theorem zk_J.tr {E1 E2 : q_H} (h : zk_J K E E1) (h2 : zk_J K E1 E2) : zk_J K E E2 := ⟨Nat.le_trans h.1 h2.1, fun i hi => (h2.2 i hi).trans (h.2 i hi)⟩
theorem zk_X.tr {E1 : q_H} {x : q_X} (h : zk_J K E E1) (h2 : zk_X K E1 x) : zk_X K E x := ⟨h2.1, h2.2.1, h2.2.2.1, h.tr h2.2.2.2⟩
theorem zk_run {call : Nat → List Value → q_H → Option q_X} (hc : zk_G K call) {o nL : Nat} {ini : Bool} {cc : ByteArray} {ret : Option FieldType} : ∀ (m pc : Nat) (lv : q_L) (st : List Value) (E : q_H) (c0 s0 : Nat) (x : q_X), q_run call o nL ini cc ret m pc lv st E c0 s0 = some x → zk_lv K E.length lv → zk_vs K E.length st → zk_hok K E → zk_in K E → zk_X K E x := by
  intro m
  induction m with
  | zero =>
    intro pc lv st E c0 s0 x h
    cases h
  | succ m ih =>
    intro pc lv st E c0 s0 x h hl hs hE hN
    unfold q_run at h
    simp only [q_nf_eq] at h
    split at h
    · cases h
    · split at h
      · rename_i hr
        cases h
        exact ⟨zk_rets hr hs, hE, hN, Nat.le_refl _, fun _ _ => rfl⟩
      · split at h
        · rename_i hcl
          obtain ⟨⟨a1, a2, a3, a4⟩, a5⟩ := zk_cl hc hcl hs hE hN
          refine (ih _ _ _ _ _ _ _ h (fun q hq => (hl q hq).up a4.1) (fun y hy => ?_) a2 a3).tr a4
          rcases List.mem_append.mp hy with hy | hy
          · exact a1 y (Option.mem_toList.mp hy)
          · exact (a5 y hy).up a4.1
        · split at h
          · rename_i hst
            obtain ⟨a1, a2, a3, a4, a5⟩ := zk_step hst hl hs hE hN
            exact (ih _ _ _ _ _ _ _ h a1 a2 a3 a4).tr a5
          · cases h
theorem zk_args : ∀ (as : List Value) (i : Nat), zk_vs K n as → zk_lv K n (lv_args i as)
  | [], _, _ => fun q hq => absurd hq (by simp [lv_args])
  | a :: as, i, h => fun q hq => by
    rcases List.mem_cons.mp (show q ∈ (i, a) :: lv_args (if a.category = 2 then i + 2 else i + 1) as from hq) with e | e
    · rw [e]
      exact zk_h h
    · exact zk_args as _ (zk_t h) q e
theorem zk_callf (F : Nat) : ∀ d : Nat, zk_G K (q_callf F d) := by
  intro d
  induction d with
  | zero =>
    intro y as E x h
    cases h
  | succ d ih =>
    intro y as E x h ha hE hN
    unfold q_callf at h
    have h2 := (q_if_s h).2
    simp only [q_nf_eq, q_fc_eq] at h2
    exact zk_run ih _ _ _ _ _ _ _ _ h2 (zk_args as 0 ha) (fun z hz => absurd hz (by simp)) hE hN
end KFR
