/-! THE PURE MACHINE: heaps as lists of cells, refs 2i = cell i of the pool (at b0 + i), 2j+1 = the text constant j (at ad j) -/
abbrev q_L : Type := List (Nat × Value)
/-- a cell: a row (its type's number, its length, what was written, the latest first: numbers or refs), or an object (its class, its fields) -/
abbrev q_E : Type := (Nat × Nat × (List (Nat × Int32) ⊕ List (Nat × Nat))) ⊕ (Nat × List Value)
abbrev q_H : Type := List q_E
def q_lk (L : List (Nat × Int32)) (j : Nat) : Int32 := match L.find? (fun q => q.1 == j) with
  | some q => q.2
  | none => 0
def q_lr (L : List (Nat × Nat)) (j : Nat) : Option Nat := (L.find? (fun q => q.1 == j)).map (fun q => q.2)
theorem q_lk_up (L : List (Nat × Int32)) (i : Nat) (x : Int32) : q_lk ((i, x) :: L) = upd (q_lk L) i x := by
  funext j
  unfold q_lk upd
  rw [List.find?_cons]
  by_cases h : j = i
  · subst h
    simp
  · have h2 : (i == j) = false := by simpa using fun e => h e.symm
    simp only [h2, if_neg h]
def q_upz (L : List (Nat × Int32)) (i : Nat) (x : Int32) : List (Nat × Int32) := bif q_lk L i == x then L else (i, x) :: L
theorem q_lk_upz (L : List (Nat × Int32)) (i : Nat) (x : Int32) : q_lk (q_upz L i x) = upd (q_lk L) i x := by
  unfold q_upz
  by_cases h : q_lk L i = x
  · rw [show (q_lk L i == x) = true by simpa using h]
    funext j
    show q_lk L j = upd (q_lk L) i x j
    unfold upd
    by_cases hj : j = i
    · rw [if_pos hj, hj, h]
    · rw [if_neg hj]
  · rw [show (q_lk L i == x) = false by simpa using h]
    exact q_lk_up L i x
theorem q_lr_up (L : List (Nat × Nat)) (i v j : Nat) : q_lr ((i, v) :: L) j = if j = i then some v else q_lr L j := by
  unfold q_lr
  rw [List.find?_cons]
  by_cases h : j = i
  · subst h
    simp
  · have h2 : (i == j) = false := by simpa using fun e => h e.symm
    simp only [h2, if_neg h]
theorem q_lr_range (c : Nat) : ∀ N j : Nat, q_lr ((List.range N).map (fun j => (j, 2 * (c + j)))) j = if j < N then some (2 * (c + j)) else none := by
  intro N
  induction N with
  | zero => intro j; rfl
  | succ N ih =>
    intro j
    have ih2 := ih j
    unfold q_lr at ih2 ⊢
    rw [List.range_succ, List.map_append, List.find?_append]
    by_cases h : j < N
    · rw [if_pos h] at ih2
      rw [if_pos (by omega)]
      cases hf : ((List.range N).map (fun j => (j, 2 * (c + j)))).find? (fun q => q.1 == j) with
      | none => rw [hf] at ih2; cases ih2
      | some z =>
        rw [hf] at ih2
        exact ih2
    · rw [if_neg h] at ih2
      cases hf : ((List.range N).map (fun j => (j, 2 * (c + j)))).find? (fun q => q.1 == j) with
      | some z => rw [hf] at ih2; cases ih2
      | none =>
        by_cases h2 : j = N
        · subst h2
          rw [if_pos (by omega)]
          simp
        · rw [if_neg (by omega)]
          have h3 : (N == j) = false := by simpa using fun e => h2 e.symm
          simp [h3]
def q_rho (b0 : Nat) (ad : Nat → Nat) (r : Nat) : Nat := if r % 2 = 0 then b0 + r / 2 else ad (r / 2)
theorem q_rho0 (b0 : Nat) (ad : Nat → Nat) (i : Nat) : q_rho b0 ad (2 * i) = b0 + i := by
  unfold q_rho
  rw [if_pos (by omega)]
  omega
theorem q_rho1 (b0 : Nat) (ad : Nat → Nat) (j : Nat) : q_rho b0 ad (2 * j + 1) = ad j := by
  unfold q_rho
  rw [if_neg (by omega)]
  congr 1
  omega
def q_v (F : Nat → Nat) (v : Value) : Value := match v with
  | .ref r => .ref (F r)
  | w => w
theorem q_v_cat {F : Nat → Nat} {v : Value} {n : Nat} (h : v.category = n) : (q_v F v).category = n := by
  rw [← h]
  cases v <;> rfl
theorem q_v_rf {F : Nat → Nat} (x : Option Nat) : q_v F (va_rf x) = va_rf (x.map F) := by cases x <;> rfl
def q_c (F : Nat → Nat) (cy : Nat → ClassId) (e : q_E) : va_E := match e with
  | .inl (t, n, .inl L) => .inl (cy t, n, .inl (q_lk L))
  | .inl (t, n, .inr L) => .inl (cy t, n, .inr (.inr (.inr (.inr (fun j => (q_lr L j).map F)))))
  | .inr (ci, fs) => .inr (ci, fs.map (q_v F))
def q_ml (F : Nat → Nat) (lv : q_L) : q_L := lv.map (fun q => (q.1, q_v F q.2))
/-- the pool as the kit's list of cells, from address a on -/
def q_ws (G : q_E → va_E) : Nat → q_H → va_W
  | _, [] => []
  | a, e :: l => (a, G e) :: q_ws G (a + 1) l
theorem q_ws_get {G : q_E → va_E} : ∀ (l : q_H) (a i : Nat), (q_ws G a l)[i]? = (l[i]?).map (fun e => (a + i, G e)) := by
  intro l
  induction l with
  | nil => intro a i; simp [q_ws]
  | cons e l ih =>
    intro a i
    cases i with
    | zero => simp [q_ws]
    | succ i =>
      simp only [q_ws, List.getElem?_cons_succ, ih]
      congr 1
      funext e
      congr 1
      omega
theorem q_ws_len {G : q_E → va_E} : ∀ (l : q_H) (a : Nat), (q_ws G a l).length = l.length := by
  intro l
  induction l with
  | nil => intro a; rfl
  | cons e l ih => intro a; simp [q_ws, ih]
theorem q_ws_set {G : q_E → va_E} : ∀ (l : q_H) (a i : Nat) (e : q_E), (q_ws G a l).set i (a + i, G e) = q_ws G a (l.set i e) := by
  intro l
  induction l with
  | nil => intro a i e; rfl
  | cons x l ih =>
    intro a i e
    cases i with
    | zero => rfl
    | succ i =>
      simp only [q_ws, List.set_cons_succ]
      congr 1
      rw [← ih (a + 1) i e]
      congr 2
      omega
theorem q_ws_apps {G : q_E → va_E} : ∀ (l : q_H) (a : Nat) (l2 : q_H), q_ws G a (l ++ l2) = q_ws G a l ++ q_ws G (a + l.length) l2 := by
  intro l
  induction l with
  | nil => intro a l2; rfl
  | cons x l ih =>
    intro a l2
    simp only [List.cons_append, q_ws, ih, List.length_cons]
    rw [show a + 1 + l.length = a + (l.length + 1) by omega]
theorem q_ws_app {G : q_E → va_E} : ∀ (l : q_H) (a : Nat) (e : q_E), q_ws G a (l ++ [e]) = q_ws G a l ++ [(a + l.length, G e)] := by
  intro l
  induction l with
  | nil => intro a e; rfl
  | cons x l ih =>
    intro a e
    simp only [List.cons_append, q_ws, ih, List.length_cons]
    rw [show a + 1 + l.length = a + (l.length + 1) by omega]
def q_W (D : va_G) (b0 : Nat) (G : q_E → va_E) (E : q_H) (H : Heap) : Prop := H.size = b0 + E.length ∧ va_P D vwCl (q_ws G b0 E) H
theorem q_ws_D {G : q_E → va_E} (b0 : Nat) (E : q_H) : va_D (fun q => b0 ≤ q) (q_ws G b0 E) := by
  refine ⟨fun i j x y hi hj hxy => ?_, fun k x hk => ?_⟩
  · rw [q_ws_get] at hi hj
    cases h1 : E[i]? with
    | none => rw [h1] at hi; cases hi
    | some e1 =>
      cases h2 : E[j]? with
      | none => rw [h2] at hj; cases hj
      | some e2 =>
        rw [h1] at hi
        rw [h2] at hj
        cases hi
        cases hj
        have h3 : b0 + i = b0 + j := hxy
        omega
  · rw [q_ws_get] at hk
    cases h1 : E[k]? with
    | none => rw [h1] at hk; cases hk
    | some e1 =>
      rw [h1] at hk
      cases hk
      exact Nat.le_add_right _ _
theorem q_bind_s {α β : Type} {x : Option α} {f : α → Option β} {b : β} (h : x.bind f = some b) : ∃ a, x = some a ∧ f a = some b := by
  cases x with
  | none => cases h
  | some a => exact ⟨a, rfl, h⟩
/-- a list, laid out before it is used -/
def q_rv {α β : Type} : List α → List α → (List α → β) → β
  | [], acc, k => k acc
  | a :: l, acc, k => q_rv l (a :: acc) k
theorem q_rv_eq {α β : Type} : ∀ (l acc : List α) (k : List α → β), q_rv l acc k = k (l.reverse ++ acc) := by
  intro l
  induction l with
  | nil => intro acc k; rfl
  | cons a l ih =>
    intro acc k
    show q_rv l (a :: acc) k = _
    rw [ih, List.reverse_cons, List.append_assoc]
    rfl
def q_fc {α β : Type} (l : List α) (k : List α → β) : β := q_rv l [] (fun r => q_rv r [] k)
theorem q_fc_eq {α β : Type} (l : List α) (k : List α → β) : q_fc l k = k l := by
  unfold q_fc
  rw [q_rv_eq, q_rv_eq, List.append_nil, List.append_nil, List.reverse_reverse]
/-- a number, counted out before it is used -/
def q_nf {β : Type} (n : Nat) (k : Nat → β) : β := match n with
  | 0 => k 0
  | m + 1 => k (m + 1)
theorem q_nf_eq {β : Type} (n : Nat) (k : Nat → β) : q_nf n k = k n := by cases n <;> rfl
def q_if {α : Type} (b : Bool) (x : Option α) : Option α := bif b then x else none
theorem q_if_s {α : Type} {b : Bool} {x : Option α} {a : α} (h : q_if b x = some a) : b = true ∧ x = some a := by
  cases b with
  | true => exact ⟨rfl, h⟩
  | false => cases h
def q_p1 {α : Type} (st : List Value) (k : Int32 → List Value → Option α) : Option α := match st with
  | .int x :: r => k x r
  | _ => none
theorem q_p1_s {α : Type} {st : List Value} {k : Int32 → List Value → Option α} {a : α} (h : q_p1 st k = some a) : ∃ x r, st = .int x :: r ∧ k x r = some a := by
  unfold q_p1 at h
  split at h
  · exact ⟨_, _, rfl, h⟩
  · cases h
def q_p2 {α : Type} (st : List Value) (k : Int32 → Int32 → List Value → Option α) : Option α := match st with
  | .int y :: .int x :: r => k x y r
  | _ => none
theorem q_p2_s {α : Type} {st : List Value} {k : Int32 → Int32 → List Value → Option α} {a : α} (h : q_p2 st k = some a) : ∃ x y r, st = .int y :: .int x :: r ∧ k x y r = some a := by
  unfold q_p2 at h
  split at h
  · exact ⟨_, _, _, rfl, h⟩
  · cases h
def q_pr {α : Type} (st : List Value) (k : Nat → List Value → Option α) : Option α := match st with
  | .ref x :: r => k x r
  | _ => none
theorem q_pr_s {α : Type} {st : List Value} {k : Nat → List Value → Option α} {a : α} (h : q_pr st k = some a) : ∃ x r, st = .ref x :: r ∧ k x r = some a := by
  unfold q_pr at h
  split at h
  · exact ⟨_, _, rfl, h⟩
  · cases h
def q_pa {α : Type} (st : List Value) (k : Value → List Value → Option α) : Option α := match st with
  | .ref x :: r => k (.ref x) r
  | .null :: r => k .null r
  | _ => none
theorem q_pa_s {α : Type} {st : List Value} {k : Value → List Value → Option α} {a : α} (h : q_pa st k = some a) : ∃ v r, st = v :: r ∧ (v = .null ∨ ∃ x, v = .ref x) ∧ k v r = some a := by
  unfold q_pa at h
  split at h
  · exact ⟨_, _, rfl, Or.inr ⟨_, rfl⟩, h⟩
  · exact ⟨_, _, rfl, Or.inl rfl, h⟩
  · cases h
def q_t1 {α : Type} (st : List Value) (k : Value → List Value → Option α) : Option α := match st with
  | v :: r => q_if (v.category == 1) (k v r)
  | _ => none
theorem q_t1_s {α : Type} {st : List Value} {k : Value → List Value → Option α} {a : α} (h : q_t1 st k = some a) : ∃ v r, st = v :: r ∧ v.category = 1 ∧ k v r = some a := by
  unfold q_t1 at h
  split at h
  · obtain ⟨h1, h2⟩ := q_if_s h
    exact ⟨_, _, rfl, eq_of_beq h1, h2⟩
  · cases h
def q_pv {α : Type} (st : List Value) (k : Value → Nat → List Value → Option α) : Option α := match st with
  | v :: .ref a :: r => k v a r
  | _ => none
theorem q_pv_s {α : Type} {st : List Value} {k : Value → Nat → List Value → Option α} {z : α} (h : q_pv st k = some z) : ∃ v a r, st = v :: .ref a :: r ∧ k v a r = some z := by
  unfold q_pv at h
  split at h
  · exact ⟨_, _, _, rfl, h⟩
  · cases h
def q_pir {α : Type} (st : List Value) (k : Int32 → Nat → List Value → Option α) : Option α := match st with
  | .int i :: .ref a :: r => k i a r
  | _ => none
theorem q_pir_s {α : Type} {st : List Value} {k : Int32 → Nat → List Value → Option α} {z : α} (h : q_pir st k = some z) : ∃ i a r, st = .int i :: .ref a :: r ∧ k i a r = some z := by
  unfold q_pir at h
  split at h
  · exact ⟨_, _, _, rfl, h⟩
  · cases h
def q_piir {α : Type} (st : List Value) (k : Int32 → Int32 → Nat → List Value → Option α) : Option α := match st with
  | .int x :: .int i :: .ref a :: r => k x i a r
  | _ => none
theorem q_piir_s {α : Type} {st : List Value} {k : Int32 → Int32 → Nat → List Value → Option α} {z : α} (h : q_piir st k = some z) : ∃ x i a r, st = .int x :: .int i :: .ref a :: r ∧ k x i a r = some z := by
  unfold q_piir at h
  split at h
  · exact ⟨_, _, _, _, rfl, h⟩
  · cases h
def q_prir {α : Type} (st : List Value) (k : Nat → Int32 → Nat → List Value → Option α) : Option α := match st with
  | .ref v :: .int i :: .ref a :: r => k v i a r
  | _ => none
theorem q_prir_s {α : Type} {st : List Value} {k : Nat → Int32 → Nat → List Value → Option α} {z : α} (h : q_prir st k = some z) : ∃ v i a r, st = .ref v :: .int i :: .ref a :: r ∧ k v i a r = some z := by
  unfold q_prir at h
  split at h
  · exact ⟨_, _, _, _, rfl, h⟩
  · cases h
def q_get (lv : q_L) (i : Nat) : Option Value := (lv.find? (fun q => q.1 == i)).map (fun q => q.2)
def q_geti (lv : q_L) (i : Nat) : Option Int32 := match q_get lv i with
  | some (.int x) => some x
  | _ => none
def q_geta (lv : q_L) (i : Nat) : Option Value := match q_get lv i with
  | some (.ref x) => some (.ref x)
  | some .null => some .null
  | _ => none
def q_set (lv : q_L) (i : Nat) (v : Value) : q_L := (i, v) :: lv.filter (fun q => !(q.1 == i) && !(q.1 + 1 == i && q.2.category == 2))
theorem q_get_k {lv : q_L} {i : Nat} {v : Value} (h : q_get lv i = some v) : ∃ k : Nat, lv[k]? = some (i, v) := by
  unfold q_get at h
  cases hf : lv.find? (fun q => q.1 == i) with
  | none => rw [hf] at h; cases h
  | some q =>
    rw [hf] at h
    cases h
    have h1 : q.1 = i := eq_of_beq (List.find?_some (p := fun q : Nat × Value => q.1 == i) hf)
    obtain ⟨k, hk⟩ := List.getElem?_of_mem (List.mem_of_find?_eq_some hf)
    exact ⟨k, by rw [hk, ← h1]⟩
theorem q_ml_get {F : Nat → Nat} {lv : q_L} {k i : Nat} {v : Value} (h : lv[k]? = some (i, v)) : (q_ml F lv)[k]? = some (i, q_v F v) := by
  unfold q_ml
  rw [List.getElem?_map, h]
  rfl
theorem q_get_s {F : Nat → Nat} {lv : q_L} {i nL : Nat} {v : Value} {ls : Array Slot} (h : q_get lv i = some v) (hl : lv_has ls nL (q_ml F lv)) : ls[i]? = some (.val (q_v F v)) := by
  obtain ⟨k, hk⟩ := q_get_k h
  exact lv_at hl k (q_ml_get hk)
theorem q_geti_g {lv : q_L} {i : Nat} {x : Int32} (h : q_geti lv i = some x) : q_get lv i = some (.int x) := by
  unfold q_geti at h
  split at h
  · cases h; assumption
  · cases h
theorem q_geti_k {lv : q_L} {i : Nat} {x : Int32} (h : q_geti lv i = some x) : ∃ k : Nat, lv[k]? = some (i, .int x) := q_get_k (q_geti_g h)
theorem q_geti_s {F : Nat → Nat} {lv : q_L} {i nL : Nat} {x : Int32} {ls : Array Slot} (h : q_geti lv i = some x) (hl : lv_has ls nL (q_ml F lv)) : ls[i]? = some (.val (.int x)) := q_get_s (q_geti_g h) hl
theorem q_geta_s {F : Nat → Nat} {lv : q_L} {i nL : Nat} {v : Value} {ls : Array Slot} (h : q_geta lv i = some v) (hl : lv_has ls nL (q_ml F lv)) : (v = .null ∧ ls[i]? = some (.val .null)) ∨ ∃ a, v = .ref a ∧ ls[i]? = some (.val (.ref (F a))) := by
  unfold q_geta at h
  split at h
  · rename_i x hx
    cases h
    exact Or.inr ⟨x, rfl, q_get_s hx hl⟩
  · rename_i hx
    cases h
    exact Or.inl ⟨rfl, q_get_s hx hl⟩
  · cases h
theorem q_set_ml (F : Nat → Nat) (lv : q_L) (i : Nat) (v : Value) : q_ml F (q_set lv i v) = (i, q_v F v) :: (q_ml F lv).filter (fun q => !(q.1 == i) && !(q.1 + 1 == i && q.2.category == 2)) := by
  unfold q_ml q_set
  rw [List.map_cons, List.filter_map]
  congr 2
  congr 1
  funext q
  obtain ⟨j, w⟩ := q
  cases w <;> rfl
def q_l1 {α : Type} (st : List Value) (k : Int64 → List Value → Option α) : Option α := match st with
  | .long x :: r => k x r
  | _ => none
theorem q_l1_s {α : Type} {st : List Value} {k : Int64 → List Value → Option α} {a : α} (h : q_l1 st k = some a) : ∃ x r, st = .long x :: r ∧ k x r = some a := by
  unfold q_l1 at h
  split at h
  · exact ⟨_, _, rfl, h⟩
  · cases h
def q_l2 {α : Type} (st : List Value) (k : Int64 → Int64 → List Value → Option α) : Option α := match st with
  | .long y :: .long x :: r => k x y r
  | _ => none
theorem q_l2_s {α : Type} {st : List Value} {k : Int64 → Int64 → List Value → Option α} {a : α} (h : q_l2 st k = some a) : ∃ x y r, st = .long y :: .long x :: r ∧ k x y r = some a := by
  unfold q_l2 at h
  split at h
  · exact ⟨_, _, _, rfl, h⟩
  · cases h
def q_li {α : Type} (st : List Value) (k : Int64 → Int32 → List Value → Option α) : Option α := match st with
  | .int y :: .long x :: r => k x y r
  | _ => none
theorem q_li_s {α : Type} {st : List Value} {k : Int64 → Int32 → List Value → Option α} {a : α} (h : q_li st k = some a) : ∃ x y r, st = .int y :: .long x :: r ∧ k x y r = some a := by
  unfold q_li at h
  split at h
  · exact ⟨_, _, _, rfl, h⟩
  · cases h
def q_prr {α : Type} (st : List Value) (k : Nat → Nat → List Value → Option α) : Option α := match st with
  | .ref x :: .ref y :: r => k x y r
  | _ => none
theorem q_prr_s {α : Type} {st : List Value} {k : Nat → Nat → List Value → Option α} {a : α} (h : q_prr st k = some a) : ∃ x y r, st = .ref x :: .ref y :: r ∧ k x y r = some a := by
  unfold q_prr at h
  split at h
  · exact ⟨_, _, _, rfl, h⟩
  · cases h
/-- the five words of a copy -/
def q_c5 {α : Type} (st : List Value) (k : Int32 → Int32 → Nat → Int32 → Nat → List Value → Option α) : Option α := match st with
  | .int n :: .int dp :: .ref a :: .int sp :: .ref a0 :: r => k n dp a sp a0 r
  | _ => none
theorem q_c5_s {α : Type} {st : List Value} {k : Int32 → Int32 → Nat → Int32 → Nat → List Value → Option α} {z : α} (h : q_c5 st k = some z) : ∃ n dp a sp a0 r, st = .int n :: .int dp :: .ref a :: .int sp :: .ref a0 :: r ∧ k n dp a sp a0 r = some z := by
  unfold q_c5 at h
  split at h
  · exact ⟨_, _, _, _, _, _, rfl, h⟩
  · cases h
def q_getl (lv : q_L) (i : Nat) : Option Int64 := match q_get lv i with
  | some (.long x) => some x
  | _ => none
theorem q_getl_g {lv : q_L} {i : Nat} {x : Int64} (h : q_getl lv i = some x) : q_get lv i = some (.long x) := by
  unfold q_getl at h
  split at h
  · rename_i y h2
    cases h
    exact h2
  · cases h
theorem q_getl_s {F : Nat → Nat} {lv : q_L} {i nL : Nat} {x : Int64} {ls : Array Slot} (h : q_getl lv i = some x) (hl : lv_has ls nL (q_ml F lv)) : ls[i]? = some (.val (.long x)) := q_get_s (q_getl_g h) hl
def q_setl (lv : q_L) (i : Nat) (x : Int64) : q_L := (i, .long x) :: lv.filter (fun q => !(q.1 == i) && (!(q.1 == i + 1) && !(q.1 + 1 == i && q.2.category == 2)))
theorem q_setl_ml (F : Nat → Nat) (lv : q_L) (i : Nat) (x : Int64) : q_ml F (q_setl lv i x) = (i, .long x) :: (q_ml F lv).filter (fun q => !(q.1 == i) && (!(q.1 == i + 1) && !(q.1 + 1 == i && q.2.category == 2))) := by
  unfold q_ml q_setl
  rw [List.map_cons, List.filter_map]
  congr 2
  congr 1
  funext q
  obtain ⟨j, w⟩ := q
  cases w <;> rfl
/-- what a copy makes of a row's numbers -/
def q_cpy (L0 L1 : List (Nat × Int32)) (sp dp n : Nat) : List (Nat × Int32) := (List.range n).map (fun i => (dp + i, q_lk L0 (sp + i))) ++ L1
theorem q_fr (g : Nat → Int32) (dp : Nat) : ∀ n k : Nat, ((List.range n).map (fun i => (dp + i, g i))).find? (fun q => q.1 == k) = if dp ≤ k ∧ k < dp + n then some (k, g (k - dp)) else none := by
  intro n
  induction n with
  | zero =>
    intro k
    rw [if_neg (by omega)]
    rfl
  | succ n ih =>
    intro k
    rw [List.range_succ, List.map_append, List.find?_append, ih k]
    by_cases h1 : dp ≤ k ∧ k < dp + n
    · rw [if_pos h1, if_pos (by omega)]
      rfl
    · rw [if_neg h1]
      by_cases h2 : k = dp + n
      · subst h2
        rw [if_pos (by omega), show dp + n - dp = n by omega]
        simp
      · rw [if_neg (by omega)]
        have h3 : (dp + n == k) = false := by simpa using fun e => h2 e.symm
        simp [h3]
theorem q_lk_cpy (L0 L1 : List (Nat × Int32)) (sp dp n : Nat) : q_lk (q_cpy L0 L1 sp dp n) = va_cpy (q_lk L0) (q_lk L1) sp dp n := by
  funext k
  unfold q_lk q_cpy va_cpy
  rw [List.find?_append, q_fr (fun i => q_lk L0 (sp + i)) dp n k]
  by_cases h : dp ≤ k ∧ k < dp + n
  · rw [if_pos h, if_pos h]
    rfl
  · rw [if_neg h, if_neg h]
    rfl
def q_et (t : Nat) : FieldType := if t = 0 then .byte else if t = 1 then .int else .boolean
/-- what is asked of a copy ahead -/
def q_cpk (q0 q : Nat × Nat × List (Nat × Int32)) (sp dp n : Int32) : Bool := q0.1 == q.1 && decide (q.1 < 3) && decide (¬ sp < 0) && decide (¬ dp < 0) && decide (¬ n < 0) && decide (sp.toNatClampNeg + n.toNatClampNeg ≤ q0.2.1) && decide (dp.toNatClampNeg + n.toNatClampNeg ≤ q.2.1) && (List.range n.toNatClampNeg).all (fun i => fits (q_et q.1) (.int (q_lk q0.2.2 (sp.toNatClampNeg + i))))
def q_tg (pc : Nat) (off : Int) : Option Nat := q_if (decide (0 ≤ (pc : Int) + off)) (some ((pc : Int) + off).toNat)
theorem q_tg_s {pc t : Nat} {off : Int} (h : q_tg pc off = some t) : (pc : Int) + off = (t : Int) := by
  unfold q_tg at h
  obtain ⟨h1, h2⟩ := q_if_s h
  have h3 := of_decide_eq_true h1
  cases h2
  omega
def q_c1 (cd : ClassFile.Cond) (x : Int32) : Bool := match cd with
  | .eq => decide (x = 0)
  | .ne => !decide (x = 0)
  | .lt => decide (x < 0)
  | .ge => decide (0 ≤ x)
  | .gt => decide (0 < x)
  | .le => decide (x ≤ 0)
def q_c2 (cd : ClassFile.Cond) (x y : Int32) : Bool := match cd with
  | .eq => decide (x = y)
  | .ne => !decide (x = y)
  | .lt => decide (x < y)
  | .ge => decide (y ≤ x)
  | .gt => decide (y < x)
  | .le => decide (x ≤ y)
/-! cells -/
def q_cell (E : q_H) (a : Nat) : Option q_E := q_if (a % 2 == 0) (E[a / 2]?)
theorem q_cell_s {E : q_H} {a : Nat} {e : q_E} (h : q_cell E a = some e) : a = 2 * (a / 2) ∧ E[a / 2]? = some e := by
  obtain ⟨h1, h2⟩ := q_if_s h
  have h3 : a % 2 = 0 := eq_of_beq h1
  exact ⟨by omega, h2⟩
def q_obj (E : q_H) (a ci : Nat) : Option (List Value) := match q_cell E a with
  | some (.inr (cj, fs)) => q_if (cj == ci) (some fs)
  | _ => none
theorem q_obj_s {E : q_H} {a ci : Nat} {fs : List Value} (h : q_obj E a ci = some fs) : a = 2 * (a / 2) ∧ E[a / 2]? = some (.inr (ci, fs)) := by
  unfold q_obj at h
  split at h
  · rename_i cj fs' hx
    obtain ⟨h1, h2⟩ := q_if_s h
    have h3 : cj = ci := eq_of_beq h1
    cases h2
    subst h3
    exact q_cell_s hx
  · cases h
def q_arr (E : q_H) (a : Nat) : Option (Nat × Nat × List (Nat × Int32)) := match q_cell E a with
  | some (.inl (t, n, .inl f)) => some (t, n, f)
  | _ => none
theorem q_arr_s {E : q_H} {a : Nat} {q : Nat × Nat × List (Nat × Int32)} (h : q_arr E a = some q) : a = 2 * (a / 2) ∧ E[a / 2]? = some (.inl (q.1, q.2.1, .inl q.2.2)) := by
  unfold q_arr at h
  split at h
  · rename_i t n f hx
    cases h
    exact q_cell_s hx
  · cases h
def q_arrR (E : q_H) (a : Nat) : Option (Nat × Nat × List (Nat × Nat)) := match q_cell E a with
  | some (.inl (t, n, .inr f)) => some (t, n, f)
  | _ => none
theorem q_arrR_s {E : q_H} {a : Nat} {q : Nat × Nat × List (Nat × Nat)} (h : q_arrR E a = some q) : a = 2 * (a / 2) ∧ E[a / 2]? = some (.inl (q.1, q.2.1, .inr q.2.2)) := by
  unfold q_arrR at h
  split at h
  · rename_i t n f hx
    cases h
    exact q_cell_s hx
  · cases h
def q_alen (E : q_H) (a : Nat) : Option Nat := match q_cell E a with
  | some (.inl (t, n, _)) => q_if (decide (t < 6)) (some n)
  | _ => none
def q_in (i : Int32) (n : Nat) : Bool := !decide (i < 0) && decide (i.toNatClampNeg < n)
theorem q_in_s {i : Int32} {n : Nat} (h : q_in i n = true) : vp_in i n := by
  unfold q_in at h
  simp only [Bool.and_eq_true, Bool.not_eq_true', decide_eq_false_iff_not, decide_eq_true_eq] at h
  exact fun q => q.elim h.1 (fun q => by omega)
def q_nar (ty : FieldType) (x : Int32) : Bool := match ty with
  | .int => true
  | .boolean => decide (x = 0) || decide (x = 1)
  | .byte => decide (x.toInt8.toInt32 = x)
  | .char => decide (x.toUInt32.toUInt16.toUInt32.toInt32 = x)
  | _ => false
theorem q_nar_s {ty : FieldType} {x : Int32} (h : q_nar ty x = true) : narrow ty (.int x) = .int x := by
  unfold q_nar at h
  split at h
  · rfl
  · simp only [Bool.or_eq_true, decide_eq_true_eq] at h
    rcases h with rfl | rfl <;> rfl
  · show Value.int _ = _
    rw [of_decide_eq_true h]
  · show Value.int _ = _
    rw [of_decide_eq_true h]
  · cases h
def q_el {α : Type} (x y : Option α) : Option α := match x with
  | some z => some z
  | none => y
theorem q_el_s {α : Type} {x y : Option α} {z : α} (h : q_el x y = some z) : x = some z ∨ y = some z := by
  unfold q_el at h
  split at h
  · exact Or.inl h
  · exact Or.inr h
/-! texts: the ref 4j + 1 is the text constant j, 4j + 3 the row of its signs -/
def q_sget (o idx a : Nat) : Option Value := q_if (o == 14 && a % 4 == 1 && decide (a / 4 < q_nS)) (if idx = 9 then some (.ref (a + 2)) else if idx = 15 then some (.int 0) else none)
def q_sl (a : Nat) : Option Nat := q_if (a % 4 == 3 && decide (a / 4 < q_nS)) (some (q_sb (a / 4)).length)
def q_rcv (E : q_H) (a o : Nat) : Bool := bif o == 14 then (a % 4 == 1 && decide (a / 4 < q_nS)) else (decide (o < 13) && (q_obj E a o).isSome)
def q_SF (ad : Nat → Nat) (b0 : Nat) (U : State) (H : Heap) : Prop := va_Z "java/lang/String" "COMPACT_STRINGS" "Z" (.int 1) (fun q => b0 ≤ q) U H ∧ va_Zq "jdk/internal/util/Preconditions" "SIOOBE_FORMATTER" "Ljava/util/function/BiFunction;" (fun q => b0 ≤ q) U H ∧ ∀ j, j < q_nS → va_O "java/lang/String" (ad (2 * j)) (fun q => b0 ≤ q) U H ∧ va_OF "java/lang/String" "coder" "B" (.int 0) (ad (2 * j)) (fun q => b0 ≤ q) U H ∧ va_OF "java/lang/String" "value" "[B" (.ref (ad (2 * j + 1))) (ad (2 * j)) (fun q => b0 ≤ q) U H ∧ va_T .byte (ad (2 * j + 1)) (q_sb j).length (fun k => .int ((q_sb j).getD k 0)) (fun q => b0 ≤ q) U H
theorem q_SF.moved {ad : Nat → Nat} {b0 : Nat} {u U : State} {H : Heap} (hvm : u.vm.Alike U.vm) (h : q_SF ad b0 u H) : q_SF ad b0 U H :=
  ⟨h.1.moved hvm, h.2.1.moved hvm, fun j hj => ⟨(h.2.2 j hj).1.moved hvm, (h.2.2 j hj).2.1.moved hvm, (h.2.2 j hj).2.2.1.moved hvm, (h.2.2 j hj).2.2.2.moved hvm⟩⟩
theorem q_SF.kept {ad : Nat → Nat} {b0 : Nat} {U : State} {H H1 : Heap} (h : q_SF ad b0 U H) (hq : ∀ a : Nat, a < H.size → ¬ b0 ≤ a → H1[a]? = H[a]?) : q_SF ad b0 U H1 :=
  ⟨h.1.kept hq, h.2.1.kept hq, fun j hj => ⟨(h.2.2 j hj).1.kept hq, (h.2.2 j hj).2.1.kept hq, (h.2.2 j hj).2.2.1.kept hq, (h.2.2 j hj).2.2.2.kept hq⟩⟩
def q_fit (ty : FieldType) (v : Value) : Bool := match ty, v with
  | .int, .int _ => true
  | .boolean, .int x => decide (x = 0) || decide (x = 1)
  | .object _, .ref _ => true
  | .object _, .null => true
  | .array _, .ref _ => true
  | .array _, .null => true
  | _, _ => false
theorem q_fit_s {F : Nat → Nat} {ty : FieldType} {v : Value} (h : q_fit ty v = true) : narrow ty (q_v F v) = q_v F v ∧ fits ty (q_v F v) = true := by
  unfold q_fit at h
  split at h
  · exact ⟨rfl, rfl⟩
  · rename_i x
    simp only [Bool.or_eq_true, decide_eq_true_eq] at h
    rcases h with rfl | rfl <;> exact ⟨rfl, rfl⟩
  · exact ⟨rfl, rfl⟩
  · exact ⟨rfl, rfl⟩
  · exact ⟨rfl, rfl⟩
  · exact ⟨rfl, rfl⟩
  · cases h
/-- a field that is not final, or a final one of the constructor's own class -/
def q_fin (o : Nat) (ini : Bool) (ci k nst : Nat) : Bool := !(q_TX ci k).2.2.2 || (ini && (nst == 0) && (o == ci))
def q_rt (t : Nat) : Bool := t == 3 || (t == 4 || t == 5)
def q_rc (t : Nat) : Option Nat := if t = 3 then some 3 else if t = 4 then some 8 else none
def q_nat (ty : ClassFile.ArrayType) : Option Nat := match ty with
  | .byte => some 0
  | .int => some 1
  | .boolean => some 2
  | _ => none
def q_ldc (o idx : Nat) : Option Value := match q_ldcw o idx with
  | some x => some (.int x)
  | none => ((q_strT o).find? (fun q => q.1 == idx)).map (fun q => .ref (2 * (2 * q.2) + 1))
def q_tys (cy : Nat → ClassId) : List (ClassId × FieldType) := [(cy 0, .byte), (cy 1, .int), (cy 2, .boolean), (cy 3, .object "DocumentHouse$Index"), (cy 4, .object "DocumentHouse$Shelf"), (cy 5, .array .int)]
def q_AOA (U : State) : Prop := (Cond.arrayOver (.array .int)).before #[] U = true
theorem q_AOA.moved {u U : State} (hvm : u.vm.Alike U.vm) (h : q_AOA u) : q_AOA U := by
  have h1 : (Cond.arrayOver (.array .int)).before #[] (u.setVm U.vm) = true := by
    rw [Cond.arrayOver_setVmC hvm]
    exact h
  exact h1
/-- what is known of the tables beside the words: nest mates, texts, arrays of objects -/
def q_T (ad : Nat → Nat) (U : State) : Prop := (∀ w ∈ q_nst, va_Nw w U) ∧ (∀ q ∈ q_strs, vk_R q.1 q.2.1 q.2.2.1 (ad q.2.2.2) U) ∧ va_AO "DocumentHouse$Index" U ∧ va_AO "DocumentHouse$Shelf" U ∧ q_AOA U
section QI
variable {p : Program} {l : Launch} {e : Env} {R : Room} {s : State} {m : MethodId} {args : Array Value} {below : List Frame} {meth : Method} {c : Code} {Q : State → Prop} {H0 H : Heap} {D : va_G} {b0 : Nat} {ad : Nat → Nat} {cy : Nat → ClassId} {cc : ByteArray} {nL o : Nat} {locs : List Loc} {cells slots : Nat} {ls : Array Slot} {pc : Nat} {E : q_H} {r : List Value} {ini : Bool}
/-- W at a pure frame -/
def q_G (p : Program) (l : Launch) (e : Env) (R : Room) (s : State) (m : MethodId) (args : Array Value) (below : List Frame) (meth : Method) (c : Code) (Q : State → Prop) (H0 : Heap) (D : va_G) (b0 : Nat) (ad : Nat → Nat) (cy : Nat → ClassId) (nL : Nat) (pc : Nat) (lv : q_L) (st : List Value) (E : q_H) (cells slots : Nat) : Prop :=
  ∀ (ls : Array Slot) (H : Heap) (locs : List Loc), lv_has ls nL (q_ml (q_rho b0 ad) lv) → q_W D b0 (q_c (q_rho b0 ad) cy) E H → va_S (fun q => b0 ≤ q) H0 H locs → W p l e R s m args below meth c H locs cells slots Q (F0 m pc ls (st.map (q_v (q_rho b0 ad))))
theorem q_fld_s {o i : Nat} {q : Nat × Nat × Nat} (h : q_fld o i = some q) : q.1 < 13 ∧ q.2.1 < q_N q.1 ∧ (q_TX q.1 q.2.1).1 = q_R q.1 ∧ ((q.2.2 = 0 ∧ Cond.fieldLink (q_R o) i (q_TX q.1 q.2.1).1 (q_TX q.1 q.2.1).2.1 (q_TX q.1 q.2.1).2.2.1 ∈ lw_tbl) ∨ (¬ q.2.2 = 0 ∧ Cond.fieldLinkNest (q_R o) i (q_TX q.1 q.2.1).1 (q_TX q.1 q.2.1).2.1 (q_TX q.1 q.2.1).2.2.1 "DocumentHouse" ∈ lw_tbl)) := by
  unfold q_fld at h
  cases hf : (q_fldT o).find? (fun q => q.1 == i) with
  | none => rw [hf] at h; cases h
  | some x =>
    rw [hf] at h
    cases h
    have h1 : x.1 = i := eq_of_beq (List.find?_some (p := fun q : Nat × Nat × Nat × Nat × Nat => q.1 == i) hf)
    have h2 := q_fldC o x (List.mem_of_find?_eq_some hf)
    simp only [Bool.and_eq_true, decide_eq_true_eq] at h2
    obtain ⟨⟨⟨g1, g2⟩, g3⟩, g4⟩ := h2
    have g5 := q_lwt g1
    refine ⟨g2, g3, g4, ?_⟩
    unfold q_fldW at g5
    by_cases hz : x.2.2.2.1 = 0
    · rw [if_pos hz, h1] at g5
      exact Or.inl ⟨hz, g5⟩
    · rw [if_neg hz, h1] at g5
      exact Or.inr ⟨hz, g5⟩
theorem q_ldcw_ok {o i : Nat} {x : Int32} (h : q_ldcw o i = some x) : Cond.constant (q_R o) i x ∈ q_big := by
  unfold q_ldcw at h
  cases hf : (q_cstT o).find? (fun q => q.1 == i) with
  | none => rw [hf] at h; cases h
  | some y =>
    rw [hf] at h
    cases h
    have h1 : y.1 = i := eq_of_beq (List.find?_some (p := fun q : Nat × Nat × Nat => q.1 == i) hf)
    have h2 := q_cstC o y (List.mem_of_find?_eq_some hf)
    have g5 := q_lwt (of_decide_eq_true h2)
    rw [h1] at g5
    exact q_mem g5 rfl
theorem q_ldc_ok {F : Nat → Nat} (hx : p.tables.exec = Jvm.exec) (hb : c.code = cc) (hown : s.vm.findClass (q_R o) = some m.cls) (hts : ∀ w ∈ q_big, w.before args s = true) (hT : q_T ad s) (hF : F = q_rho b0 ad) {idx : Nat} {v : Value} (hdg : decode cc pc = .ok (.ldc idx, 2)) (hv : q_ldc o idx = some v) (kk : W p l e R s m args below meth c H locs cells slots Q (F0 m (pc + 2) ls (q_v F v :: r))) : W p l e R s m args below meth c H locs cells slots Q (F0 m pc ls r) := by
  unfold q_ldc at hv
  split at hv
  · rename_i x hx2
    cases hv
    exact lv_ldc hx hb hown (hts _ (q_ldcw_ok hx2)) hdg kk
  · cases hf : (q_strT o).find? (fun q => q.1 == idx) with
    | none => rw [hf] at hv; cases hv
    | some y =>
      rw [hf] at hv
      cases hv
      have h1 : y.1 = idx := eq_of_beq (List.find?_some (p := fun q : Nat × Nat => q.1 == idx) hf)
      have h2 := of_decide_eq_true (q_strC o y (List.mem_of_find?_eq_some hf))
      have h3 := hT.2.1 _ h2
      rw [h1] at h3
      subst hF
      have h4 : q_v (q_rho b0 ad) (.ref (2 * (2 * y.2) + 1)) = .ref (ad (2 * y.2)) := by
        show Value.ref _ = _
        rw [q_rho1]
      rw [h4] at kk
      exact va_ldcS hx hb hown h3 hdg kk
theorem q_ldcW_ok {F : Nat → Nat} (hx : p.tables.exec = Jvm.exec) (hb : c.code = cc) (hown : s.vm.findClass (q_R o) = some m.cls) (hts : ∀ w ∈ q_big, w.before args s = true) (hT : q_T ad s) (hF : F = q_rho b0 ad) {idx : Nat} {v : Value} (hdg : decode cc pc = .ok (.ldc_w idx, 3)) (hv : q_ldc o idx = some v) (kk : W p l e R s m args below meth c H locs cells slots Q (F0 m (pc + 3) ls (q_v F v :: r))) : W p l e R s m args below meth c H locs cells slots Q (F0 m pc ls r) := by
  unfold q_ldc at hv
  split at hv
  · rename_i x hx2
    cases hv
    exact lv_ldcw hx hb hown (hts _ (q_ldcw_ok hx2)) hdg kk
  · cases hf : (q_strT o).find? (fun q => q.1 == idx) with
    | none => rw [hf] at hv; cases hv
    | some y =>
      rw [hf] at hv
      cases hv
      have h1 : y.1 = idx := eq_of_beq (List.find?_some (p := fun q : Nat × Nat => q.1 == idx) hf)
      have h2 := of_decide_eq_true (q_strC o y (List.mem_of_find?_eq_some hf))
      have h3 := hT.2.1 _ h2
      rw [h1] at h3
      subst hF
      have h4 : q_v (q_rho b0 ad) (.ref (2 * (2 * y.2) + 1)) = .ref (ad (2 * y.2)) := by
        show Value.ref _ = _
        rw [q_rho1]
      rw [h4] at kk
      intro T hT X
      obtain ⟨t, a1, b1⟩ := kk T hT X
      exact ⟨t, X.ldcStringW hx hown h3.1 h3.2 (g := F0 m pc ls r) rfl (by rw [hb]; exact hdg) t a1, b1⟩
theorem q_ref0 {a : Nat} (h : a = 2 * (a / 2)) : q_v (q_rho b0 ad) (.ref a) = .ref (b0 + a / 2) := by
  show Value.ref _ = _
  rw [h, q_rho0, ← h]
theorem q_ws_at {G : q_E → va_E} {i : Nat} {x : q_E} (h : E[i]? = some x) : (q_ws G b0 E)[i]? = some (b0 + i, G x) := by
  rw [q_ws_get, h]
  rfl
theorem q_get_ok (hx : p.tables.exec = Jvm.exec) (hb : c.code = cc) (hown : s.vm.findClass (q_R o) = some m.cls) (hts : ∀ w ∈ q_big, w.before args s = true) (hT : q_T ad s) (hK : va_K D vwCl (q_tys cy) s) {idx a : Nat} {q : Nat × Nat × Nat} {fs : List Value} {v : Value} (hq : q_fld o idx = some q) (hf : q_obj E a q.1 = some fs) (hv : fs[q.2.1]? = some v) (hdg : decode cc pc = .ok (.getfield idx, 3)) (hw : q_W D b0 (q_c (q_rho b0 ad) cy) E H) (kk : W p l e R s m args below meth c H locs cells slots Q (F0 m (pc + 3) ls (q_v (q_rho b0 ad) v :: r))) : W p l e R s m args below meth c H locs cells slots Q (F0 m pc ls (q_v (q_rho b0 ad) (.ref a) :: r)) := by
  obtain ⟨h1, h2, h3, h4⟩ := q_fld_s hq
  obtain ⟨g1, g2⟩ := q_obj_s hf
  rw [q_ref0 g1]
  have hv2 : (fs.map (q_v (q_rho b0 ad)))[q.2.1]? = some (q_v (q_rho b0 ad) v) := by rw [List.getElem?_map, hv]; rfl
  rcases h4 with ⟨-, h4⟩ | ⟨hn, h4⟩
  · exact va_get hx hb (Ts := q_big) hts (q_lay_big h1) hown hK hw.2 (a / 2) (q_ws_at g2) (q_vw _ h1) q.2.1 h2 (hts _ (q_mem h4 rfl)) (by rw [h3]; exact fun _ h => h) hv2 hdg kk
  · exact va_getN hx hb (Ts := q_big) hts (q_lay_big h1) hown hK hw.2 (a / 2) (q_ws_at g2) (q_vw _ h1) q.2.1 h2 (va_Nw.use rfl (hT.1 _ (q_memN h4 rfl))) (by rw [h3]; exact fun _ h => h) hv2 hdg kk
theorem q_W_set {G : q_E → va_E} {H1 : Heap} {i : Nat} {x : q_E} (hz : H1.size = H.size) (hw : q_W D b0 G E H) (h : va_P D vwCl ((q_ws G b0 E).set i (b0 + i, G x)) H1) : q_W D b0 G (E.set i x) H1 := by
  refine ⟨?_, ?_⟩
  · rw [hz, hw.1, List.length_set]
  · rw [← q_ws_set]
    exact h
theorem q_put_ok (hx : p.tables.exec = Jvm.exec) (hb : c.code = cc) (hown : s.vm.findClass (q_R o) = some m.cls) (hts : ∀ w ∈ q_big, w.before args s = true) (hT : q_T ad s) (hK : va_K D vwCl (q_tys cy) s) (hini : ini = true → meth.name = "<init>") {idx a : Nat} {q : Nat × Nat × Nat} {fs : List Value} {v : Value} (hq : q_fld o idx = some q) (hf : q_obj E a q.1 = some fs) (e2 : (q_fit (q_Ty q.1 q.2.1) v && q_fin o ini q.1 q.2.1 q.2.2 && decide (q.2.1 < fs.length)) = true) (hdg : decode cc pc = .ok (.putfield idx, 3)) (hw : q_W D b0 (q_c (q_rho b0 ad) cy) E H) (hS : va_S (fun q => b0 ≤ q) H0 H locs) (kk : ∀ (H1 : Heap) (locs1 : List Loc), q_W D b0 (q_c (q_rho b0 ad) cy) (E.set (a / 2) (.inr (q.1, fs.set q.2.1 v))) H1 → va_S (fun q => b0 ≤ q) H0 H1 locs1 → W p l e R s m args below meth c H1 locs1 cells slots Q (F0 m (pc + 3) ls r)) : W p l e R s m args below meth c H locs cells slots Q (F0 m pc ls (q_v (q_rho b0 ad) v :: q_v (q_rho b0 ad) (.ref a) :: r)) := by
  obtain ⟨h1, h2, h3, h4⟩ := q_fld_s hq
  obtain ⟨g1, g2⟩ := q_obj_s hf
  simp only [Bool.and_eq_true, decide_eq_true_eq] at e2
  obtain ⟨⟨e2, e3⟩, e4⟩ := e2
  obtain ⟨n1, n2⟩ := q_fit_s (F := q_rho b0 ad) e2
  rw [q_ref0 g1]
  obtain ⟨ci, k, nst⟩ := q
  dsimp only at *
  have hts2 := hts
  have hin := q_lay_big h1
  have hc := q_vw _ h1
  have hd := q_ty_ok _ h1 _ h2
  have he := q_ws_at (b0 := b0) (G := q_c (q_rho b0 ad) cy) g2
  have hl : k < (fs.map (q_v (q_rho b0 ad))).length := by rw [List.length_map]; exact e4
  have hap := va_apart (own := q_R o) hts hin (q_Ty ci) (q_ty_ok _ h1) (q_nm_ok _ h1) hK hc
  obtain ⟨r0, h5, cell, q1, q2, q3, q4⟩ := hw.2 _ _ he
  have hr : r0 = (q_R ci, q_TX ci, q_N ci) := Option.some.inj (h5.symm.trans hc)
  subst hr
  obtain ⟨hSl, hfc, kC, hkC, hkind⟩ := hK.1 ci _ hc
  obtain ⟨cf, kf, fi, f, hi, hsl⟩ := hSl k h2
  have hlay := hts _ (hin _ (u_in_lay h2))
  have hst := (u_facts hfc hkC (u_lays hts hin h2) hi).1
  have hsame : s.fieldFound? (q_TX ci k).1 (q_TX ci k).2.1 (q_TX ci k).2.2.1 = some (cf, kf, fi, f) := hi
  have fin : ∀ (H' : Heap), H'[b0 + a / 2]? = some (cell.setSlot (D.2 ci k) (q_v (q_rho b0 ad) v)) → H'.size = H.size → (∀ q : Nat, q ≠ b0 + a / 2 → H'[q]? = H[q]?) → q_W D b0 (q_c (q_rho b0 ad) cy) (E.set (a / 2) (.inr (ci, fs.set k v))) H' := by
    intro H' f1 f2 f3
    refine q_W_set f2 hw ?_
    have hm : q_c (q_rho b0 ad) cy (.inr (ci, fs.set k v)) = .inr (ci, (fs.map (q_v (q_rho b0 ad))).set k (q_v (q_rho b0 ad) v)) := by
      show Sum.inr (ci, (fs.set k v).map _) = _
      rw [List.map_set]
    rw [hm]
    exact hw.2.set (q_ws_D b0 E) he ⟨_, hc, t_OB.to (V := updV (vp_V (fs.map (q_v (q_rho b0 ad)))) k (q_v (q_rho b0 ad) v)) ⟨_, f1, q2, q3, t_set q4 hap h2 _⟩ (fun j _ => vp_updV_set hl _ j)⟩ f3
  unfold u_lay at hlay
  by_cases hfin : (q_TX ci k).2.2.2 = true
  · rw [if_pos hfin] at hlay
    have e5 : (ini = true ∧ nst = 0) ∧ o = ci := by
      unfold q_fin at e3
      rw [hfin] at e3
      simpa using e3
    obtain ⟨⟨e5, e6⟩, rfl⟩ := e5
    have hcf : m.cls = cf := by
      obtain ⟨_, _, c', _, _, _, -, -, hf', -, -, -, hown2, -⟩ := Cond.laysFinal_spec hlay
      have e1 : c' = cf := by have := hi.symm.trans hf'; simp at this; exact this.1.symm
      rw [h3] at hown2
      rw [← e1]; exact Option.some.inj (hown.symm.trans hown2)
    have h6 := u_fits hfc hkC hkind (Or.inr hlay) hi hd n1 n2
    rcases h4 with ⟨-, h4⟩ | ⟨hn, h4⟩
    · refine W.putFinK hx hb hown (hts _ (q_mem h4 rfl)) hsame hst hcf (hini e5) (by rw [q2]; exact h6) q1 q3 (by rw [hsl]; exact k2_hasslot (q4 k h2)) rfl rfl hdg fun H' f1 f2 f3 => ?_
      rw [hsl] at f1 ⊢
      exact kk H' _ (fin H' f1 f2 f3) (hS.put f2 f3 (Nat.le_add_right _ _))
    · exact absurd e6 hn
  · rw [if_neg hfin] at hlay
    have h6 := u_store hfc hkC hkind hlay hi hd n1 n2
    rcases h4 with ⟨-, h4⟩ | ⟨hn, h4⟩
    · refine W.putK hx hb (f := f) ⟨hown, hts _ (q_mem h4 rfl), ⟨_, _, _, hsame⟩, hst⟩ (by rw [q2]; exact h6) q1 q3 (by rw [hsl]; exact k2_hasslot (q4 k h2)) rfl rfl hdg fun H' f1 f2 f3 => ?_
      rw [hsl] at f1 ⊢
      exact kk H' _ (fin H' f1 f2 f3) (hS.put f2 f3 (Nat.le_add_right _ _))
    · refine va_WputK hx hb (f := f) hown (va_Nw.use rfl (hT.1 _ (q_memN h4 rfl))) hsame hst (by rw [q2]; exact h6) q1 q3 (by rw [hsl]; exact k2_hasslot (q4 k h2)) rfl rfl hdg fun H' f1 f2 f3 => ?_
      rw [hsl] at f1 ⊢
      exact kk H' _ (fin H' f1 f2 f3) (hS.put f2 f3 (Nat.le_add_right _ _))
end QI
section QA
variable {p : Program} {l : Launch} {e : Env} {R : Room} {s : State} {m : MethodId} {args : Array Value} {below : List Frame} {meth : Method} {c : Code} {Q : State → Prop} {H0 H : Heap} {D : va_G} {b0 : Nat} {ad : Nat → Nat} {cy : Nat → ClassId} {cc : ByteArray} {nL o : Nat} {locs : List Loc} {cells slots : Nat} {ls : Array Slot} {pc : Nat} {E : q_H} {r : List Value} {ini : Bool}
theorem q_tysC {t : Nat} (h : t < 6) : ∃ ty, (q_tys cy)[t]? = some (cy t, ty) := by
  match t, h with
  | 0, _ => exact ⟨_, rfl⟩
  | 1, _ => exact ⟨_, rfl⟩
  | 2, _ => exact ⟨_, rfl⟩
  | 3, _ => exact ⟨_, rfl⟩
  | 4, _ => exact ⟨_, rfl⟩
  | 5, _ => exact ⟨_, rfl⟩
  | n + 6, h => exact absurd h (by omega)
theorem q_cL {F : Nat → Nat} {t n : Nat} {x : List (Nat × Int32) ⊕ List (Nat × Nat)} : ∃ y, q_c F cy (.inl (t, n, x)) = .inl (cy t, n, y) := by
  rcases x with x | x <;> exact ⟨_, rfl⟩
theorem q_alen_ok (hx : p.tables.exec = Jvm.exec) (hb : c.code = cc) (hK : va_K D vwCl (q_tys cy) s) {a n : Nat} (hn : q_alen E a = some n) (hdg : decode cc pc = .ok (.arraylength, 1)) (hw : q_W D b0 (q_c (q_rho b0 ad) cy) E H) (kk : W p l e R s m args below meth c H locs cells slots Q (F0 m (pc + 1) ls (.int (Int32.ofNat n) :: r))) : W p l e R s m args below meth c H locs cells slots Q (F0 m pc ls (q_v (q_rho b0 ad) (.ref a) :: r)) := by
  unfold q_alen at hn
  split at hn
  · rename_i t n' x hx2
    obtain ⟨h1, h2⟩ := q_if_s hn
    have h1 := of_decide_eq_true h1
    cases h2
    obtain ⟨g1, g2⟩ := q_cell_s hx2
    rw [q_ref0 g1]
    obtain ⟨ty, hty⟩ := q_tysC (cy := cy) h1
    obtain ⟨y, hy⟩ := q_cL (F := q_rho b0 ad) (cy := cy) (t := t) (n := n) (x := x)
    have hat := q_ws_at (b0 := b0) (G := q_c (q_rho b0 ad) cy) g2
    rw [hy] at hat
    exact va_alen hx hb hK hw.2 (a / 2) t hat hty rfl hdg kk
  · cases hn
theorem q_bald_ok (hx : p.tables.exec = Jvm.exec) (hb : c.code = cc) (hK : va_K D vwCl (q_tys cy) s) {a : Nat} {i : Int32} {q : Nat × Nat × List (Nat × Int32)} (hq : q_arr E a = some q) (e2 : ((q.1 == 0 || q.1 == 2) && q_in i q.2.1) = true) (hdg : decode cc pc = .ok (.baload, 1)) (hw : q_W D b0 (q_c (q_rho b0 ad) cy) E H) (kk : W p l e R s m args below meth c H locs cells slots Q (F0 m (pc + 1) ls (.int (q_lk q.2.2 i.toNatClampNeg) :: r))) : W p l e R s m args below meth c H locs cells slots Q (F0 m pc ls (.int i :: q_v (q_rho b0 ad) (.ref a) :: r)) := by
  obtain ⟨g1, g2⟩ := q_arr_s hq
  rw [q_ref0 g1]
  simp only [Bool.and_eq_true, Bool.or_eq_true, beq_iff_eq] at e2
  obtain ⟨e2, e3⟩ := e2
  have hi := q_in_s e3
  obtain ⟨t, n, f⟩ := q
  dsimp only at *
  have hat := q_ws_at (b0 := b0) (G := q_c (q_rho b0 ad) cy) g2
  rcases e2 with rfl | rfl
  · exact va_bald hx hb hK hw.2 (a / 2) 0 (cA := cy 0) hat rfl hi hdg kk
  · exact va_zald hx hb hK hw.2 (a / 2) 2 (cA := cy 2) hat rfl hi hdg kk
theorem q_iald_ok (hx : p.tables.exec = Jvm.exec) (hb : c.code = cc) (hK : va_K D vwCl (q_tys cy) s) {a : Nat} {i : Int32} {q : Nat × Nat × List (Nat × Int32)} (hq : q_arr E a = some q) (e2 : (q.1 == 1 && q_in i q.2.1) = true) (hdg : decode cc pc = .ok (.iaload, 1)) (hw : q_W D b0 (q_c (q_rho b0 ad) cy) E H) (kk : W p l e R s m args below meth c H locs cells slots Q (F0 m (pc + 1) ls (.int (q_lk q.2.2 i.toNatClampNeg) :: r))) : W p l e R s m args below meth c H locs cells slots Q (F0 m pc ls (.int i :: q_v (q_rho b0 ad) (.ref a) :: r)) := by
  obtain ⟨g1, g2⟩ := q_arr_s hq
  rw [q_ref0 g1]
  simp only [Bool.and_eq_true, beq_iff_eq] at e2
  obtain ⟨e2, e3⟩ := e2
  have hi := q_in_s e3
  obtain ⟨t, n, f⟩ := q
  dsimp only at *
  subst e2
  exact va_iald hx hb hK hw.2 (a / 2) 1 (cA := cy 1) (q_ws_at (b0 := b0) (G := q_c (q_rho b0 ad) cy) g2) rfl hi hdg kk
theorem q_arrfun {f : Nat → Int32} {j : Nat} {x : Int32} {cA : ClassId} {n : Nat} (hz : (arrV cA n (fun j => .int (f j))).setSlot j (.int x) = (arrV cA n (fun j => .int (f j))).setSlot j (.int x)) : (arrV cA n (fun j => .int (f j))).setSlot j (.int x) = vp_cell cA (n, .inl (upd f j x)) := by
  rw [vp_cell_i, arrV_store]
  congr 1
  funext q
  by_cases hq : q = j
  · subst hq
    simp [updV, upd]
  · simp [updV, upd, hq]
theorem q_bast_ok (hx : p.tables.exec = Jvm.exec) (hb : c.code = cc) (hK : va_K D vwCl (q_tys cy) s) {a : Nat} {i x : Int32} {q : Nat × Nat × List (Nat × Int32)} (hq : q_arr E a = some q) (e2 : ((q.1 == 0 || q.1 == 2) && q_in i q.2.1) = true) (hdg : decode cc pc = .ok (.bastore, 1)) (hw : q_W D b0 (q_c (q_rho b0 ad) cy) E H) (hS : va_S (fun q => b0 ≤ q) H0 H locs) (kk : ∀ (H1 : Heap) (locs1 : List Loc), q_W D b0 (q_c (q_rho b0 ad) cy) (E.set (a / 2) (.inl (q.1, q.2.1, .inl (bif q.1 == 0 then (i.toNatClampNeg, x.toInt8.toInt32) :: q.2.2 else q_upz q.2.2 i.toNatClampNeg (x &&& 1))))) H1 → va_S (fun q => b0 ≤ q) H0 H1 locs1 → W p l e R s m args below meth c H1 locs1 cells slots Q (F0 m (pc + 1) ls r)) : W p l e R s m args below meth c H locs cells slots Q (F0 m pc ls (.int x :: .int i :: q_v (q_rho b0 ad) (.ref a) :: r)) := by
  obtain ⟨g1, g2⟩ := q_arr_s hq
  rw [q_ref0 g1]
  simp only [Bool.and_eq_true, Bool.or_eq_true, beq_iff_eq] at e2
  obtain ⟨e2, e3⟩ := e2
  have hi := q_in_s e3
  obtain ⟨t, n, f⟩ := q
  dsimp only at *
  have hat := q_ws_at (b0 := b0) (G := q_c (q_rho b0 ad) cy) g2
  rcases e2 with rfl | rfl
  · refine W.bast hx hb (hw.2 _ _ hat) ((hK.2 0 _ rfl).1 n (fun j => .int (q_lk f j))) (fun q => by cases q) (by show ¬ (i < 0 ∨ (arrV _ _ _).slots.size ≤ _); rw [arrV_size]; exact hi) rfl rfl hdg fun H1 f1 f2 f3 => ?_
    refine kk H1 _ (q_W_set f2 hw (hw.2.set (q_ws_D b0 E) hat ?_ f3)) (hS.put f2 f3 (Nat.le_add_right _ _))
    show H1[b0 + a / 2]? = some (vp_cell _ _)
    rw [f1]
    show _ = some (vp_cell (cy 0) (n, .inl (q_lk ((i.toNatClampNeg, x.toInt8.toInt32) :: f))))
    rw [q_lk_up]
    exact congrArg some (q_arrfun rfl)
  · refine W.zast hx hb (hw.2 _ _ hat) ((hK.2 2 _ rfl).1 n (fun j => .int (q_lk f j))) (fun q => by cases q) (by show ¬ (i < 0 ∨ (arrV _ _ _).slots.size ≤ _); rw [arrV_size]; exact hi) rfl rfl hdg fun H1 f1 f2 f3 => ?_
    refine kk H1 _ (q_W_set f2 hw (hw.2.set (q_ws_D b0 E) hat ?_ f3)) (hS.put f2 f3 (Nat.le_add_right _ _))
    show H1[b0 + a / 2]? = some (vp_cell _ _)
    rw [f1]
    show _ = some (vp_cell (cy 2) (n, .inl (q_lk (q_upz f i.toNatClampNeg (x &&& 1)))))
    rw [q_lk_upz]
    exact congrArg some (q_arrfun rfl)
theorem q_iast_ok (hx : p.tables.exec = Jvm.exec) (hb : c.code = cc) (hK : va_K D vwCl (q_tys cy) s) {a : Nat} {i x : Int32} {q : Nat × Nat × List (Nat × Int32)} (hq : q_arr E a = some q) (e2 : (q.1 == 1 && q_in i q.2.1) = true) (hdg : decode cc pc = .ok (.iastore, 1)) (hw : q_W D b0 (q_c (q_rho b0 ad) cy) E H) (hS : va_S (fun q => b0 ≤ q) H0 H locs) (kk : ∀ (H1 : Heap) (locs1 : List Loc), q_W D b0 (q_c (q_rho b0 ad) cy) (E.set (a / 2) (.inl (q.1, q.2.1, .inl ((i.toNatClampNeg, x) :: q.2.2)))) H1 → va_S (fun q => b0 ≤ q) H0 H1 locs1 → W p l e R s m args below meth c H1 locs1 cells slots Q (F0 m (pc + 1) ls r)) : W p l e R s m args below meth c H locs cells slots Q (F0 m pc ls (.int x :: .int i :: q_v (q_rho b0 ad) (.ref a) :: r)) := by
  obtain ⟨g1, g2⟩ := q_arr_s hq
  rw [q_ref0 g1]
  simp only [Bool.and_eq_true, beq_iff_eq] at e2
  obtain ⟨e2, e3⟩ := e2
  have hi := q_in_s e3
  obtain ⟨t, n, f⟩ := q
  dsimp only at *
  subst e2
  have hat := q_ws_at (b0 := b0) (G := q_c (q_rho b0 ad) cy) g2
  refine W.iast hx hb (hw.2 _ _ hat) ((hK.2 1 _ rfl).1 n (fun j => .int (q_lk f j))) (fun q => by cases q) (by show ¬ (i < 0 ∨ (arrV _ _ _).slots.size ≤ _); rw [arrV_size]; exact hi) rfl rfl hdg fun H1 f1 f2 f3 => ?_
  refine kk H1 _ (q_W_set f2 hw (hw.2.set (q_ws_D b0 E) hat ?_ f3)) (hS.put f2 f3 (Nat.le_add_right _ _))
  show H1[b0 + a / 2]? = some (vp_cell _ _)
  rw [f1]
  show _ = some (vp_cell (cy 1) (n, .inl (q_lk ((i.toNatClampNeg, x) :: f))))
  rw [q_lk_up]
  exact congrArg some (q_arrfun rfl)
theorem q_set_same : ∀ (E : q_H) (i : Nat) (x : q_E), E[i]? = some x → E.set i x = E := by
  intro E
  induction E with
  | nil => intro i x h; rfl
  | cons y E ih =>
    intro i x h
    cases i with
    | zero =>
      have h2 : y = x := by simpa using h
      rw [h2]
      rfl
    | succ i =>
      rw [List.getElem?_cons_succ] at h
      show y :: E.set i x = y :: E
      rw [ih i x h]
theorem q_bast_same {a j : Nat} {y z : Int32} {q : Nat × Nat × List (Nat × Int32)} (hq : q_arr E a = some q) (g : (q.1 == 2 && q_lk q.2.2 j == y) = true) : E.set (a / 2) (.inl (q.1, q.2.1, .inl (bif q.1 == 0 then (j, z) :: q.2.2 else q_upz q.2.2 j y))) = E := by
  obtain ⟨-, h2⟩ := q_arr_s hq
  simp only [Bool.and_eq_true, beq_iff_eq] at g
  obtain ⟨g1, g2⟩ := g
  have h3 : (bif q.1 == 0 then (j, z) :: q.2.2 else q_upz q.2.2 j y) = q.2.2 := by
    rw [g1]
    show q_upz _ _ _ = _
    unfold q_upz
    rw [show (q_lk q.2.2 j == y) = true by simpa using g2]
    rfl
  rw [h3]
  exact q_set_same _ _ _ h2
theorem q_aald_ok (hx : p.tables.exec = Jvm.exec) (hb : c.code = cc) (hK : va_K D vwCl (q_tys cy) s) {a : Nat} {i : Int32} {q : Nat × Nat × List (Nat × Nat)} (hq : q_arrR E a = some q) (e2 : (q_rt q.1 && q_in i q.2.1) = true) (hdg : decode cc pc = .ok (.aaload, 1)) (hw : q_W D b0 (q_c (q_rho b0 ad) cy) E H) (kk : W p l e R s m args below meth c H locs cells slots Q (F0 m (pc + 1) ls (q_v (q_rho b0 ad) (va_rf (q_lr q.2.2 i.toNatClampNeg)) :: r))) : W p l e R s m args below meth c H locs cells slots Q (F0 m pc ls (.int i :: q_v (q_rho b0 ad) (.ref a) :: r)) := by
  obtain ⟨g1, g2⟩ := q_arrR_s hq
  rw [q_ref0 g1]
  rw [q_v_rf] at kk
  simp only [Bool.and_eq_true, q_rt, Bool.or_eq_true, beq_iff_eq] at e2
  obtain ⟨e2, e3⟩ := e2
  have hi := q_in_s e3
  obtain ⟨t, n, f⟩ := q
  dsimp only at *
  have hat := q_ws_at (b0 := b0) (G := q_c (q_rho b0 ad) cy) g2
  rcases e2 with rfl | rfl | rfl
  · exact va_aldq hx hb hK hw.2 (a / 2) 3 (cA := cy 3) hat rfl hi hdg kk
  · exact va_aldq hx hb hK hw.2 (a / 2) 4 (cA := cy 4) hat rfl hi hdg kk
  · have hlt : i.toNatClampNeg < n := Nat.not_le.mp fun q => hi (Or.inr q)
    exact W.aald (v := va_rf ((q_lr f i.toNatClampNeg).map (q_rho b0 ad))) (ty := .array .int) hx hb (hw.2 _ _ hat) ((hK.2 5 _ rfl).1 n (fun j => va_rf ((q_lr f j).map (q_rho b0 ad)))) rfl (fun q => by cases q) (by show ¬ (i < 0 ∨ (arrV _ _ _).slots.size ≤ _); rw [arrV_size]; exact hi) (by show (arrV _ _ _).slots[_]? = _; rw [arrV_read _ _ hlt]) rfl rfl hdg kk
theorem q_aast_ok (hx : p.tables.exec = Jvm.exec) (hb : c.code = cc) (hK : va_K D vwCl (q_tys cy) s) {a v ci : Nat} {i : Int32} {q : Nat × Nat × List (Nat × Nat)} {fs : List Value} (hq : q_arrR E a = some q) (hci : q_rc q.1 = some ci) (hf : q_obj E v ci = some fs) (e2 : q_in i q.2.1 = true) (hdg : decode cc pc = .ok (.aastore, 1)) (hw : q_W D b0 (q_c (q_rho b0 ad) cy) E H) (hS : va_S (fun q => b0 ≤ q) H0 H locs) (kk : ∀ (H1 : Heap) (locs1 : List Loc), q_W D b0 (q_c (q_rho b0 ad) cy) (E.set (a / 2) (.inl (q.1, q.2.1, .inr ((i.toNatClampNeg, v) :: q.2.2)))) H1 → va_S (fun q => b0 ≤ q) H0 H1 locs1 → W p l e R s m args below meth c H1 locs1 cells slots Q (F0 m (pc + 1) ls r)) : W p l e R s m args below meth c H locs cells slots Q (F0 m pc ls (q_v (q_rho b0 ad) (.ref v) :: .int i :: q_v (q_rho b0 ad) (.ref a) :: r)) := by
  obtain ⟨g1, g2⟩ := q_arrR_s hq
  obtain ⟨k1, k2⟩ := q_obj_s hf
  have hi := q_in_s e2
  have hv : q_rho b0 ad v = b0 + v / 2 := by rw [k1, q_rho0, ← k1]
  rw [q_ref0 g1, q_ref0 k1]
  obtain ⟨t, n, f⟩ := q
  dsimp only at *
  have hat := q_ws_at (b0 := b0) (G := q_c (q_rho b0 ad) cy) g2
  have hav := q_ws_at (b0 := b0) (G := q_c (q_rho b0 ad) cy) k2
  have hlt : i.toNatClampNeg < n := Nat.not_le.mp fun q => hi (Or.inr q)
  have h0 : ¬ i < 0 := fun q => hi (Or.inl q)
  have key : ∀ (C : String) (T : u_T) (N : Nat), vwCl[ci]? = some (C, T, N) → (q_tys cy)[t]? = some (cy t, .object C) → W p l e R s m args below meth c H locs cells slots Q (F0 m pc ls (.ref (b0 + v / 2) :: .int i :: .ref (b0 + a / 2) :: r)) := by
    intro C T N hc ht
    obtain ⟨r', hr', cellV, y1, y2, y3, -⟩ := hw.2 _ _ hav
    have hcls := (hK.1 ci _ hc).2
    obtain ⟨kA, comp, z1, z2, z3, -⟩ := (hK.2 t _ ht).2
    have hcomp : comp = D.1 ci := Option.some.inj (z3.symm.trans hcls.1)
    subst hcomp
    obtain ⟨kC, hkC, -⟩ := hcls.2
    refine W.aast hx hb (hw.2 _ _ hat) (fun q h => by cases h) (fun h => by cases h) z1 z2 rfl hkC ⟨h0, by show _ < (arrV _ _ _).slots.size; rw [arrV_size]; exact hlt⟩ y1 (fun q h => by rw [y3] at h; cases h) (by rw [y2]; exact hkC) (by rw [y2]; exact va_assign hcls) rfl rfl hdg fun H1 f1 f2 f3 => ?_
    refine kk H1 _ (q_W_set f2 hw (hw.2.set (q_ws_D b0 E) hat ?_ f3)) (hS.put f2 f3 (Nat.le_add_right _ _))
    show H1[b0 + a / 2]? = some (vp_cell _ _)
    rw [f1]
    refine congrArg some ?_
    rw [vp_cell_q, arrV_store]
    show arrV (cy t) n (updV (fun j => va_rf (Option.map (q_rho b0 ad) (q_lr f j))) i.toNatClampNeg (.ref (b0 + v / 2))) = arrV (cy t) n (fun j => va_rf (Option.map (q_rho b0 ad) (q_lr ((i.toNatClampNeg, v) :: f) j)))
    refine congrArg (arrV (cy t) n) (funext fun j => ?_)
    rw [q_lr_up]
    by_cases hj : j = i.toNatClampNeg
    · subst hj
      simp [updV, va_rf, hv]
    · simp [updV, hj]
  unfold q_rc at hci
  by_cases h3 : t = 3
  · rw [if_pos h3] at hci
    cases hci
    subst h3
    exact key _ _ _ rfl rfl
  · rw [if_neg h3] at hci
    by_cases h4 : t = 4
    · rw [if_pos h4] at hci
      cases hci
      subst h4
      exact key _ _ _ rfl rfl
    · rw [if_neg h4] at hci
      cases hci
end QA
section QN
variable {p : Program} {l : Launch} {e : Env} {R : Room} {s : State} {m : MethodId} {args : Array Value} {below : List Frame} {meth : Method} {c : Code} {Q : State → Prop} {H0 H : Heap} {D : va_G} {b0 : Nat} {ad : Nat → Nat} {cy : Nat → ClassId} {cc : ByteArray} {nL o : Nat} {locs : List Loc} {cells slots : Nat} {ls : Array Slot} {pc : Nat} {E : q_H} {r : List Value} {ini : Bool}
/-- a cell more -/
theorem q_W_app {G : q_E → va_E} {H1 : Heap} {x : q_E} (hw : q_W D b0 G E H) (hz : H1.size = H.size + 1) (ho : ∀ q : Nat, q < H.size → H1[q]? = H[q]?) (hx : va_at D vwCl (b0 + E.length, G x) H1) : q_W D b0 G (E ++ [x]) H1 := by
  refine ⟨by rw [hz, hw.1, List.length_append]; rfl, ?_⟩
  rw [q_ws_app]
  refine (hw.2.kept fun k q hk => ho q.1 ((hw.2 k q hk).lt)).app fun k q hk => ?_
  have hz : k < 1 := (List.getElem?_eq_some_iff.mp hk).1
  rw [show k = 0 by omega] at hk
  cases hk
  exact hx
theorem q_S_app {A : Nat → Prop} {H1 : Heap} (hS : va_S A H0 H locs) (hz : H1.size = H.size + 1) (ho : ∀ q : Nat, q < H.size → H1[q]? = H[q]?) : va_S A H0 H1 locs :=
  ⟨Nat.le_trans hS.1 (by omega), fun x h1 h2 => (ho x (Nat.lt_of_lt_of_le h1 hS.1)).trans (hS.2.1 x h1 h2), hS.2.2⟩
theorem q_ref2 (i : Nat) : q_v (q_rho b0 ad) (.ref (2 * i)) = .ref (b0 + i) := by
  show Value.ref _ = _
  rw [q_rho0]
theorem q_cls1 {cA cB : ClassId} {ty : FieldType} {n : String} (h : s.vm.findClass n = some cA) (h2 : s.vm.findClass n = some cB) : cA = cB := Option.some.inj (h.symm.trans h2)
theorem q_newa_ok (hx : p.tables.exec = Jvm.exec) (hb : c.code = cc) (hts : ∀ w ∈ q_big, w.before args s = true) (hK : va_K D vwCl (q_tys cy) s) {ty : ClassFile.ArrayType} {n : Int32} {t : Nat} (ht : q_nat ty = some t) (e2 : (decide (¬ n < 0) && decide (n.toNatClampNeg * 4 ≤ 536870912)) = true) (hc : cells + 1 ≤ R.cells) (hs : slots + n.toNatClampNeg ≤ R.slots) (hdg : decode cc pc = .ok (.newarray ty, 2)) (hw : q_W D b0 (q_c (q_rho b0 ad) cy) E H) (hS : va_S (fun q => b0 ≤ q) H0 H locs) (kk : ∀ (H1 : Heap) (locs1 : List Loc), q_W D b0 (q_c (q_rho b0 ad) cy) (E ++ [.inl (t, n.toNatClampNeg, .inl [])]) H1 → va_S (fun q => b0 ≤ q) H0 H1 locs1 → W p l e R s m args below meth c H1 locs1 (cells + 1) (slots + n.toNatClampNeg) Q (F0 m (pc + 2) ls (q_v (q_rho b0 ad) (.ref (2 * E.length)) :: r))) : W p l e R s m args below meth c H locs cells slots Q (F0 m pc ls (.int n :: r)) := by
  simp only [Bool.and_eq_true, decide_eq_true_eq] at e2
  obtain ⟨e2, e3⟩ := e2
  rw [q_ref2] at kk
  have fin : ∀ (H1 : Heap) (cA : ClassId) (ct : ClassId), cA = ct → H1[b0 + E.length]? = some (arrV cA n.toNatClampNeg (fun _ => .int 0)) → H1.size = b0 + E.length + 1 → (∀ q, q < b0 + E.length → H1[q]? = H[q]?) → va_at D vwCl (b0 + E.length, .inl (ct, n.toNatClampNeg, .inl (q_lk []))) H1 := fun H1 cA ct h1 h2 _ _ => by
    subst h1
    exact h2
  cases ty <;> first | (cases ht; done) | skip
  all_goals cases ht
  · refine va_newaK (atype := .boolean) hx hb (hts _ (q_mem q_acZ rfl)) rfl hdg rfl e2 rfl (by show _ * 1 ≤ _; omega) hc hs hw.1 fun H1 cA f1 f2 f3 f4 f5 => ?_
    have hcl : cA = cy 2 := q_cls1 (ty := .boolean) f5 (hK.2 2 _ rfl).2
    exact kk H1 locs (q_W_app hw (by rw [f2, hw.1]) (fun q hq => f3 q (by rw [← hw.1]; exact hq)) (fin H1 _ _ hcl f1 f2 f3)) (q_S_app hS (by rw [f2, hw.1]) (fun q hq => f3 q (by rw [← hw.1]; exact hq)))
  · refine va_newaK (atype := .byte) hx hb (hts _ (q_mem q_acB rfl)) rfl hdg rfl e2 rfl (by show _ * 1 ≤ _; omega) hc hs hw.1 fun H1 cA f1 f2 f3 f4 f5 => ?_
    have hcl : cA = cy 0 := q_cls1 (ty := .byte) f5 (hK.2 0 _ rfl).2
    exact kk H1 locs (q_W_app hw (by rw [f2, hw.1]) (fun q hq => f3 q (by rw [← hw.1]; exact hq)) (fin H1 _ _ hcl f1 f2 f3)) (q_S_app hS (by rw [f2, hw.1]) (fun q hq => f3 q (by rw [← hw.1]; exact hq)))
  · refine va_newaK (atype := .int) hx hb (hts _ (q_mem q_acI rfl)) rfl hdg rfl e2 rfl (by show _ * 4 ≤ _; omega) hc hs hw.1 fun H1 cA f1 f2 f3 f4 f5 => ?_
    have hcl : cA = cy 1 := q_cls1 (ty := .int) f5 (hK.2 1 _ rfl).2
    exact kk H1 locs (q_W_app hw (by rw [f2, hw.1]) (fun q hq => f3 q (by rw [← hw.1]; exact hq)) (fin H1 _ _ hcl f1 f2 f3)) (q_S_app hS (by rw [f2, hw.1]) (fun q hq => f3 q (by rw [← hw.1]; exact hq)))
theorem q_new_s {o i : Nat} {q : Nat × Nat} (h : q_new o i = some q) : q.1 < 13 ∧ q.2 = q_N q.1 ∧ Cond.classLink (q_R o) i (q_R q.1) ∈ lw_tbl := by
  unfold q_new at h
  cases hf : (q_newT o).find? (fun q => q.1 == i) with
  | none => rw [hf] at h; cases h
  | some y =>
    rw [hf] at h
    cases h
    have h1 : y.1 = i := eq_of_beq (List.find?_some (p := fun q : Nat × Nat × Nat => q.1 == i) hf)
    have h2 := q_newC o y (List.mem_of_find?_eq_some hf)
    simp only [Bool.and_eq_true, decide_eq_true_eq] at h2
    have g5 := q_lwt h2.1
    rw [h1] at g5
    exact ⟨h2.2, rfl, g5⟩
theorem q_new_ok (hx : p.tables.exec = Jvm.exec) (hb : c.code = cc) (hown : s.vm.findClass (q_R o) = some m.cls) (hts : ∀ w ∈ q_big, w.before args s = true) (hK : va_K D vwCl (q_tys cy) s) {idx : Nat} {q : Nat × Nat} (hq : q_new o idx = some q) (hc : cells + 1 ≤ R.cells) (hs : slots + q.2 ≤ R.slots) (hdg : decode cc pc = .ok (.new idx, 3)) (hw : q_W D b0 (q_c (q_rho b0 ad) cy) E H) (hS : va_S (fun q => b0 ≤ q) H0 H locs) (kk : ∀ (H1 : Heap) (locs1 : List Loc), q_W D b0 (q_c (q_rho b0 ad) cy) (E ++ [.inr (q.1, (List.range q.2).map (fun j => defaultValue (q_Ty q.1 j)))]) H1 → va_S (fun q => b0 ≤ q) H0 H1 locs1 → W p l e R s m args below meth c H1 locs1 (cells + 1) (slots + q.2) Q (F0 m (pc + 3) ls (q_v (q_rho b0 ad) (.ref (2 * E.length)) :: r))) : W p l e R s m args below meth c H locs cells slots Q (F0 m pc ls r) := by
  obtain ⟨h1, h2, h3⟩ := q_new_s hq
  rw [q_ref2] at kk
  have hcl := q_vw _ h1
  have hKn := hK.1 q.1 _ hcl
  rw [h2] at kk hs
  refine W.newcK hx hb hown (hts _ (q_mem h3 rfl)) (hts _ (q_mem (q_inst _ h1) rfl)) (hts _ (q_mem (q_init _ h1) rfl)) rfl hdg hc hs hKn.2.1 hw.1 fun H1 kC hkC f1 f2 f3 => ?_
  have hz : H1.size = H.size + 1 := by rw [f2, hw.1]
  have ho : ∀ q : Nat, q < H.size → H1[q]? = H[q]? := fun q hq => f3 q (by rw [← hw.1]; exact hq)
  refine kk H1 locs (q_W_app hw hz ho ?_) (q_S_app hS hz ho)
  refine ⟨_, hcl, (u_born (q_Ty q.1) hts (q_lay_big h1) hKn hkC f1 (q_ty_ok _ h1)).to fun j hj => ?_⟩
  show defaultValue (q_Ty q.1 j) = (List.map _ _).getD j .null
  rw [List.getD_eq_getElem?_getD, List.getElem?_map, List.getElem?_map, List.getElem?_range hj]
  show _ = q_v _ (defaultValue _)
  cases q_Ty q.1 j <;> rfl
theorem q_anew_s {o i t : Nat} (h : q_anew o i = some t) : (t = 3 ∧ Cond.classLink (q_R o) i "DocumentHouse$Index" ∈ lw_tbl) ∨ (t = 4 ∧ Cond.classLink (q_R o) i "DocumentHouse$Shelf" ∈ lw_tbl) := by
  unfold q_anew at h
  cases hf : (q_newT o).find? (fun q => q.1 == i) with
  | none => rw [hf] at h; cases h
  | some y =>
    rw [hf] at h
    have h1 : y.1 = i := eq_of_beq (List.find?_some (p := fun q : Nat × Nat × Nat => q.1 == i) hf)
    have h2 := q_newC o y (List.mem_of_find?_eq_some hf)
    simp only [Bool.and_eq_true, decide_eq_true_eq] at h2
    have g5 := q_lwt h2.1
    rw [h1] at g5
    have h3 : (if y.2.1 = 3 then some 3 else if y.2.1 = 8 then some 4 else none) = some t := h
    by_cases e3 : y.2.1 = 3
    · rw [if_pos e3] at h3
      cases h3
      rw [e3] at g5
      exact Or.inl ⟨rfl, g5⟩
    · rw [if_neg e3] at h3
      by_cases e8 : y.2.1 = 8
      · rw [if_pos e8] at h3
        cases h3
        rw [e8] at g5
        exact Or.inr ⟨rfl, g5⟩
      · rw [if_neg e8] at h3
        cases h3
theorem q_newr_ok (hx : p.tables.exec = Jvm.exec) (hb : c.code = cc) (hown : s.vm.findClass (q_R o) = some m.cls) (hts : ∀ w ∈ q_big, w.before args s = true) (hT : q_T ad s) (hK : va_K D vwCl (q_tys cy) s) {idx : Nat} {n : Int32} {t : Nat} (ht : q_anew o idx = some t) (e2 : (decide (¬ n < 0) && decide (n.toNatClampNeg * 4 ≤ 536870912)) = true) (hc : cells + 1 ≤ R.cells) (hs : slots + n.toNatClampNeg ≤ R.slots) (hdg : decode cc pc = .ok (.anewarray idx, 3)) (hw : q_W D b0 (q_c (q_rho b0 ad) cy) E H) (hS : va_S (fun q => b0 ≤ q) H0 H locs) (kk : ∀ (H1 : Heap) (locs1 : List Loc), q_W D b0 (q_c (q_rho b0 ad) cy) (E ++ [.inl (t, n.toNatClampNeg, .inr [])]) H1 → va_S (fun q => b0 ≤ q) H0 H1 locs1 → W p l e R s m args below meth c H1 locs1 (cells + 1) (slots + n.toNatClampNeg) Q (F0 m (pc + 3) ls (q_v (q_rho b0 ad) (.ref (2 * E.length)) :: r))) : W p l e R s m args below meth c H locs cells slots Q (F0 m pc ls (.int n :: r)) := by
  simp only [Bool.and_eq_true, decide_eq_true_eq] at e2
  obtain ⟨e2, e3⟩ := e2
  rw [q_ref2] at kk
  have key : ∀ (C : String), (Cond.classLink (q_R o) idx C).before args s = true → va_AO C s → (q_tys cy)[t]? = some (cy t, .object C) → W p l e R s m args below meth c H locs cells slots Q (F0 m pc ls (.int n :: r)) := by
    intro C hl ha hty
    refine W.anew hx hb hown hl (va_AO.use ha) rfl hdg rfl e2 e3 hc hs fun cA kA comp f1 f2 f3 f4 => ?_
    have hcl : cA = cy t := q_cls1 (ty := .object C) f1 (hK.2 t _ hty).2.choose_spec.choose_spec.2.2.2
    subst hcl
    generalize hH1 : H.push ({ cls := cy t, slots := Array.replicate n.toNatClampNeg .null, vm := .none } : Cell) = H1
    have z1 : H1.size = H.size + 1 := by rw [← hH1, Array.size_push]
    have o1 : ∀ q : Nat, q < H.size → H1[q]? = H[q]? := fun q hq => by rw [← hH1, Array.getElem?_push, if_neg (Nat.ne_of_lt hq)]
    have e1 : H1[H.size]? = some (arrV (cy t) n.toNatClampNeg (fun _ => .null)) := by rw [← hH1, Array.getElem?_push_size, ← arrV_new]
    rw [hw.1]
    refine kk H1 locs (q_W_app hw z1 o1 ?_) (q_S_app hS z1 o1)
    rw [hw.1] at e1
    exact e1
  rcases q_anew_s ht with ⟨rfl, h⟩ | ⟨rfl, h⟩
  · exact key _ (hts _ (q_mem h rfl)) hT.2.2.1 rfl
  · exact key _ (hts _ (q_mem h rfl)) hT.2.2.2.1 rfl
theorem q_sum_cat {F : Nat → Nat} : ∀ r : List Value, ((r.map (q_v F)).map fun v => v.category).sum = (r.map fun v => v.category).sum := by
  intro r
  induction r with
  | nil => rfl
  | cons v r ih =>
    simp only [List.map_cons, List.sum_cons, ih]
    rw [q_v_cat (F := F) (v := v) rfl]
theorem q_math_ok {F : Nat → Nat} (hx : p.tables.exec = Jvm.exec) (hb : c.code = cc) (hml : c.maxLocals = ls.size) (hown : s.vm.findClass (q_R o) = some m.cls) (hts : ∀ w ∈ q_big, w.before args s = true) {idx t : Nat} (ht : q_math o idx = some t) (hR : 3 ≤ R.frames ∧ 100 ≤ R.locals) (hc : cells ≤ R.cells) (hs : slots ≤ R.slots) {r : List Value} {x y : Int32} (h8 : (r.map fun v => v.category).sum ≤ 8) (hdg : decode cc pc = .ok (.invokestatic idx, 3)) (kk : W p l e R s m args below meth c H locs cells slots Q (F0 m (pc + 3) ls (.int (bif t == 0 then (if x < y then y else x) else (if y < x then y else x)) :: r.map (q_v F)))) : W p l e R s m args below meth c H locs cells slots Q (F0 m pc ls (.int y :: .int x :: r.map (q_v F))) := by
  unfold q_math at ht
  cases hf : (q_matT o).find? (fun q => q.1 == idx) with
  | none => rw [hf] at ht; cases ht
  | some z =>
    rw [hf] at ht
    have ht : z.2.1 = t := Option.some.inj ht
    have h1 : z.1 = idx := eq_of_beq (List.find?_some (p := fun q : Nat × Nat × Nat => q.1 == idx) hf)
    have h2 := q_matC o z (List.mem_of_find?_eq_some hf)
    simp only [Bool.and_eq_true, decide_eq_true_eq] at h2
    have g5 := q_lwt h2.1
    have g6 := h2.2
    rw [h1, ht] at g5
    rw [ht] at g6
    obtain ⟨a1, a2, a3, a4⟩ := q_mat1 t g6
    have h9 : ((r.map (q_v F)).map fun v => v.category).sum + 13 ≤ R.locals := by rw [q_sum_cat]; omega
    match t, g6 with
    | 0, _ => exact va_mmax hx hb hml hown (hts _ (q_mem g5 rfl)) (hts _ (q_mem a1 rfl)) (hts _ (q_mem a2 rfl)) (hts _ (q_mem (a3 rfl) rfl)) (by omega) h9 hc hs hdg kk
    | 1, _ => exact va_mmin hx hb hml hown (hts _ (q_mem g5 rfl)) (hts _ (q_mem a1 rfl)) (hts _ (q_mem a2 rfl)) (hts _ (q_mem (a4 rfl) rfl)) (by omega) h9 hc hs hdg kk
    | n + 2, h => exact absurd h (by omega)
theorem q_ldc2_ok {o i : Nat} {x : Int64} (h : q_ldc2 o i = some x) : Cond.constantLong (q_R o) i x ∈ q_big := by
  unfold q_ldc2 at h
  cases hf : (q_c2T o).find? (fun q => q.1 == i) with
  | none => rw [hf] at h; cases h
  | some z =>
    rw [hf] at h
    have ht : z.2.1 = x := Option.some.inj h
    have h1 : z.1 = i := eq_of_beq (List.find?_some (p := fun q : Nat × Int64 × Nat => q.1 == i) hf)
    have h2 := q_c2C o z (List.mem_of_find?_eq_some hf)
    have g5 := q_lwt (of_decide_eq_true h2)
    rw [h1, ht] at g5
    exact q_mem g5 rfl
theorem q_mnl_ok {F : Nat → Nat} (hx : p.tables.exec = Jvm.exec) (hb : c.code = cc) (hml : c.maxLocals = ls.size) (hown : s.vm.findClass (q_R o) = some m.cls) (hts : ∀ w ∈ q_big, w.before args s = true) {idx : Nat} (ht : q_mnl o idx = true) (hR : 3 ≤ R.frames ∧ 100 ≤ R.locals) (hc : cells ≤ R.cells) (hs : slots ≤ R.slots) {r : List Value} {x y : Int64} (h8 : (r.map fun v => v.category).sum ≤ 8) (hdg : decode cc pc = .ok (.invokestatic idx, 3)) (kk : W p l e R s m args below meth c H locs cells slots Q (F0 m (pc + 3) ls (.long (if y < x then y else x) :: r.map (q_v F)))) : W p l e R s m args below meth c H locs cells slots Q (F0 m pc ls (.long y :: .long x :: r.map (q_v F))) := by
  unfold q_mnl at ht
  obtain ⟨z, hf⟩ := Option.isSome_iff_exists.mp ht
  have h1 : z.1 = idx := eq_of_beq (List.find?_some (p := fun q : Nat × Nat => q.1 == idx) hf)
  have h2 := q_mlC o z (List.mem_of_find?_eq_some hf)
  have g5 := q_lwt (of_decide_eq_true h2)
  rw [h1] at g5
  obtain ⟨a1, a2, a3⟩ := q_ml1
  have h9 : ((r.map (q_v F)).map fun v => v.category).sum + 15 ≤ R.locals := by rw [q_sum_cat]; omega
  exact va_mmin_long hx hb hml hown (hts _ (q_mem g5 rfl)) (hts _ (q_mem a1 rfl)) (hts _ (q_mem a2 rfl)) (hts _ (q_mem a3 rfl)) (by omega) h9 hc hs hdg kk
theorem q_tysP {t : Nat} (h : t < 3) : (q_tys cy)[t]? = some (cy t, q_et t) := by
  match t, h with
  | 0, _ => rfl
  | 1, _ => rfl
  | 2, _ => rfl
theorem q_etP (t : Nat) : refKind (q_et t) = false := by
  unfold q_et
  split
  · rfl
  · split <;> rfl
set_option maxHeartbeats 2000000 in
theorem q_copy_ok (hx : p.tables.exec = Jvm.exec) (hb : c.code = cc) (hml : c.maxLocals = ls.size) (hown : s.vm.findClass (q_R o) = some m.cls) (hts : ∀ w ∈ q_big, w.before args s = true) (hK : va_K D vwCl (q_tys cy) s) {idx : Nat} (ht : q_acp o idx = true) (hR : 3 ≤ R.frames ∧ 100 ≤ R.locals) {a a0 : Nat} {sp dp n : Int32} {q0 q : Nat × Nat × List (Nat × Int32)} (hq0 : q_arr E a0 = some q0) (hq : q_arr E a = some q) {r : List Value} (e2 : (q_cpk q0 q sp dp n && decide ((r.map fun v => v.category).sum ≤ 8)) = true) (hdg : decode cc pc = .ok (.invokestatic idx, 3)) (hw : q_W D b0 (q_c (q_rho b0 ad) cy) E H) (hS : va_S (fun q => b0 ≤ q) H0 H locs) (kk : ∀ (H1 : Heap) (locs1 : List Loc), q_W D b0 (q_c (q_rho b0 ad) cy) (E.set (a / 2) (.inl (q.1, q.2.1, .inl (q_cpy q0.2.2 q.2.2 sp.toNatClampNeg dp.toNatClampNeg n.toNatClampNeg)))) H1 → va_S (fun q => b0 ≤ q) H0 H1 locs1 → W p l e R s m args below meth c H1 locs1 cells slots Q (F0 m (pc + 3) ls (r.map (q_v (q_rho b0 ad))))) : W p l e R s m args below meth c H locs cells slots Q (F0 m pc ls (.int n :: .int dp :: q_v (q_rho b0 ad) (.ref a) :: .int sp :: q_v (q_rho b0 ad) (.ref a0) :: r.map (q_v (q_rho b0 ad)))) := by
  unfold q_acp at ht
  obtain ⟨z, hf⟩ := Option.isSome_iff_exists.mp ht
  have h1 : z.1 = idx := eq_of_beq (List.find?_some (p := fun q : Nat × Nat => q.1 == idx) hf)
  have h2 := q_acC o z (List.mem_of_find?_eq_some hf)
  have g5 := q_lwt (of_decide_eq_true h2)
  rw [h1] at g5
  obtain ⟨w1, w2, w3⟩ := q_ac1
  obtain ⟨g1, g2⟩ := q_arr_s hq0
  obtain ⟨g3, g4⟩ := q_arr_s hq
  rw [q_ref0 g1, q_ref0 g3]
  obtain ⟨t, n1, f1⟩ := q
  obtain ⟨t0, n0, f0⟩ := q0
  unfold q_cpk at e2
  simp only [Bool.and_eq_true, beq_iff_eq, decide_eq_true_eq, List.all_eq_true, List.mem_range] at e2 ⊢
  obtain ⟨⟨⟨⟨⟨⟨⟨⟨rfl, e3⟩, k1⟩, k2⟩, k3⟩, k4⟩, k5⟩, k6⟩, k7⟩ := e2
  dsimp only at *
  have hat0 := q_ws_at (b0 := b0) (G := q_c (q_rho b0 ad) cy) g2
  have hat := q_ws_at (b0 := b0) (G := q_c (q_rho b0 ad) cy) g4
  have hc0 : H[b0 + a0 / 2]? = some (vp_cell (cy t0) (n0, .inl (q_lk f0))) := hw.2 _ _ hat0
  have hc1 : H[b0 + a / 2]? = some (vp_cell (cy t0) (n1, .inl (q_lk f1))) := hw.2 _ _ hat
  obtain ⟨-, c0, hk0, cm0, hkk0⟩ := (hK.2 t0 _ (q_tysP e3)).1 n0 (fun j => .int (q_lk f0 j))
  obtain ⟨-, c1, hk1, cm1, hkk1⟩ := (hK.2 t0 _ (q_tysP e3)).1 n1 (fun j => .int (q_lk f1 j))
  have nn : ∀ z : Int32, ¬ z < 0 → z.toInt = (z.toNatClampNeg : Int) := by
    intro z hz
    have hz0 : (0 : Int) ≤ z.toInt := by simpa using Int32.le_iff_toInt_le.mp (Int32.not_lt.mp hz)
    show z.toInt = ((z.toInt.toNat : Nat) : Int)
    omega
  intro T hT X
  obtain ⟨vm', X', step⟩ := X.arraycopy hx hown (hts _ (q_mem g5 rfl)) (hts _ (q_mem w1 rfl)) (hts _ (q_mem w2 rfl)) (hts _ (q_mem w3 rfl)) (src := b0 + a0 / 2) (dst := b0 + a / 2) (cs := vp_cell (cy t0) (n0, .inl (q_lk f0))) (cd := vp_cell (cy t0) (n1, .inl (q_lk f1))) (srcPos := sp) (destPos := dp) (n := n) (by rw [hT]; exact hc0) (by rw [hT]; exact hc1)
    (fun _ h => by cases h) (fun _ h => by cases h) (fun h => by cases h) (fun h => by cases h) hk0 hk1 hkk0 hkk1 (by simp [q_etP]) k1 k2 k3
    (by rw [nn sp k1, nn n k3]; show ¬ _ > ((arrV _ n0 _).slots.size : Int); rw [arrV_size]; omega)
    (by rw [nn dp k2, nn n k3]; show ¬ _ > ((arrV _ n1 _).slots.size : Int); rw [arrV_size]; omega)
    (fun vm₁ _ i hi => by
      have e : (vp_cell (cy t0) (n0, .inl (q_lk f0))).slots.getD (sp.toNatClampNeg + i) .null = .int (q_lk f0 (sp.toNatClampNeg + i)) := by
        show (arrV _ n0 _).slots.getD _ _ = _
        rw [Array.getD_eq_getD_getElem?, arrV_read _ _ (by omega)]
        rfl
      rw [e]
      exact ⟨k6 i hi, trivial⟩)
    (g := F0 m pc ls (.int n :: .int dp :: .ref (b0 + a / 2) :: .int sp :: .ref (b0 + a0 / 2) :: r.map (q_v (q_rho b0 ad)))) rfl (by rw [hml]) (rest := r.map (q_v (q_rho b0 ad))) rfl (by rw [hb]; exact hdg) (by omega) (by show 2 * 0 + _ + (7 + 11) ≤ _; rw [q_sum_cat]; omega)
  have e1 : copied (vp_cell (cy t0) (n0, .inl (q_lk f0))) (vp_cell (cy t0) (n1, .inl (q_lk f1))) sp dp n = vp_cell (cy t0) (n1, .inl (va_cpy (q_lk f0) (q_lk f1) sp.toNatClampNeg dp.toNatClampNeg n.toNatClampNeg)) := va_copied (fun z => .int z) (cy t0) (cy t0) (q_lk f0) (q_lk f1) k4
  rw [e1] at X' step
  have hl : b0 + a / 2 < H.size := (Array.getElem?_eq_some_iff.mp hc1).1
  have hheap : ((T.setVm vm').setCell (b0 + a / 2) (vp_cell (cy t0) (n1, .inl (va_cpy (q_lk f0) (q_lk f1) sp.toNatClampNeg dp.toNatClampNeg n.toNatClampNeg)))).heap = H.setIfInBounds (b0 + a / 2) (vp_cell (cy t0) (n1, .inl (va_cpy (q_lk f0) (q_lk f1) sp.toNatClampNeg dp.toNatClampNeg n.toNatClampNeg))) := by rw [← hT]; rfl
  have oq : ∀ q : Nat, q ≠ b0 + a / 2 → (H.setIfInBounds (b0 + a / 2) (vp_cell (cy t0) (n1, .inl (va_cpy (q_lk f0) (q_lk f1) sp.toNatClampNeg dp.toNatClampNeg n.toNatClampNeg))))[q]? = H[q]? := fun q hq => by simp [Array.getElem?_setIfInBounds, Ne.symm hq]
  obtain ⟨t, a1, b1⟩ := kk _ _ (q_W_set (by simp) hw (hw.2.set (q_ws_D b0 E) hat (by
      show (H.setIfInBounds (b0 + a / 2) _)[b0 + a / 2]? = some (vp_cell (cy t0) (n1, .inl (q_lk (q_cpy f0 f1 sp.toNatClampNeg dp.toNatClampNeg n.toNatClampNeg))))
      rw [q_lk_cpy]
      simp [Array.getElem?_setIfInBounds, hl]) oq)) ⟨by simp; exact hS.1, fun q g1 g2 => by
      rw [oq q (fun e => g2 (by rw [e]; exact Nat.le_add_right _ _))]
      exact hS.2.1 q g1 g2, fun q hq => by
      rcases List.mem_append.mp hq with h | h
      · exact hS.2.2 q h
      · obtain ⟨z, -, hz⟩ := List.mem_map.mp h
        rw [← hz]
        exact Nat.le_add_right _ _⟩ _ hheap X'
  exact ⟨t, step t a1, b1⟩
theorem q_oini_ok {F : Nat → Nat} (hx : p.tables.exec = Jvm.exec) (hb : c.code = cc) (hml : c.maxLocals = ls.size) (hown : s.vm.findClass (q_R o) = some m.cls) (hts : ∀ w ∈ q_big, w.before args s = true) {idx a : Nat} (ht : q_oini o idx = true) (hR : 3 ≤ R.frames ∧ 100 ≤ R.locals) {r : List Value} (h8 : (r.map fun v => v.category).sum ≤ 8) (hdg : decode cc pc = .ok (.invokespecial idx, 3)) (kk : W p l e R s m args below meth c H locs cells slots Q (F0 m (pc + 3) ls (r.map (q_v F)))) : W p l e R s m args below meth c H locs cells slots Q (F0 m pc ls (q_v F (.ref a) :: r.map (q_v F))) := by
  unfold q_oini at ht
  cases hf : (q_oiT o).find? (fun q => q.1 == idx) with
  | none => rw [hf] at ht; cases ht
  | some z =>
    have h1 : z.1 = idx := eq_of_beq (List.find?_some (p := fun q : Nat × Nat => q.1 == idx) hf)
    have g5 := q_lwt (of_decide_eq_true (q_oiC o z (List.mem_of_find?_eq_some hf)))
    rw [h1] at g5
    have h9 : ((r.map (q_v F)).map fun v => v.category).sum + 12 ≤ R.locals := by rw [q_sum_cat]; omega
    exact W.objInit hx hb hown (hts _ (q_mem g5 rfl)) (hts _ (q_mem q_oi1.1 rfl)) (hts _ (q_mem q_oi1.2 rfl)) (g := F0 m pc ls _) rfl hml.symm rfl hdg (by omega) (by show 2 * 0 + _ + 12 ≤ _; omega) kk
end QN
section QT
variable {p : Program} {l : Launch} {e : Env} {R : Room} {s : State} {m : MethodId} {args : Array Value} {below : List Frame} {meth : Method} {c : Code} {Q : State → Prop} {H : Heap} {D : va_G} {b0 : Nat} {ad : Nat → Nat} {cy : Nat → ClassId} {cc : ByteArray} {nL o : Nat} {locs : List Loc} {cells slots : Nat} {ls : Array Slot} {pc : Nat} {E : q_H} {r : List Value} {ini : Bool}
theorem q_wCS : Cond.fieldLink "java/lang/String" 38 "java/lang/String" "COMPACT_STRINGS" "Z" ∈ lw_tbl := q_lwt (i := 675) (by decide +kernel)
theorem q_wSV : Cond.fieldLink "java/lang/String" 9 "java/lang/String" "value" "[B" ∈ lw_tbl := q_lwt (i := 2864) (by decide +kernel)
theorem q_wSC : Cond.fieldLink "java/lang/String" 15 "java/lang/String" "coder" "B" ∈ lw_tbl := q_lwt (i := 2865) (by decide +kernel)
theorem q_wK1 : Cond.methodLink "java/lang/StringLatin1" 9 yJ0_checkIndex_df160 ∈ lw_tbl := q_lwt (i := 688) (by decide +kernel)
theorem q_wK2 : Cond.static yJ0_checkIndex_df160 ∈ lw_tbl := q_lwt (i := 689) (by decide +kernel)
theorem q_wK3 : Cond.code yJ0_checkIndex_df160 cJ0_checkIndex_df160 2 none ∈ lw_tbl := q_lwt (i := 690) (by decide +kernel)
theorem q_wK4 : Cond.fieldLink "java/lang/String" 1053 "jdk/internal/util/Preconditions" "SIOOBE_FORMATTER" "Ljava/util/function/BiFunction;" ∈ lw_tbl := q_lwt (i := 691) (by decide +kernel)
theorem q_wK5 : Cond.methodLink "java/lang/String" 1059 yJ3_checkIndex_8e157 ∈ lw_tbl := q_lwt (i := 693) (by decide +kernel)
theorem q_wK6 : Cond.static yJ3_checkIndex_8e157 ∈ lw_tbl := q_lwt (i := 694) (by decide +kernel)
theorem q_wK7 : Cond.code yJ3_checkIndex_8e157 cJ3_checkIndex_8e157 3 (some .int) ∈ lw_tbl := q_lwt (i := 695) (by decide +kernel)
theorem q_wK8 : Cond.initialized "jdk/internal/util/Preconditions" ∈ lw_tbl := q_lwt (i := 18) (by decide +kernel)
theorem q_wK9 : Cond.initialized "java/lang/String" ∈ lw_tbl := q_lwt (i := 16) (by decide +kernel)
theorem q_sref {a : Nat} (h : a % 4 = 1) : q_v (q_rho b0 ad) (.ref a) = .ref (ad (2 * (a / 4))) := by
  show Value.ref _ = _
  rw [show a = 2 * (2 * (a / 4)) + 1 by omega, q_rho1, ← show a = 2 * (2 * (a / 4)) + 1 by omega]
theorem q_sref3 {a : Nat} (h : a % 4 = 3) : q_v (q_rho b0 ad) (.ref a) = .ref (ad (2 * (a / 4) + 1)) := by
  show Value.ref _ = _
  rw [show a = 2 * (2 * (a / 4) + 1) + 1 by omega, q_rho1, ← show a = 2 * (2 * (a / 4) + 1) + 1 by omega]
theorem q_cs_ok (hx : p.tables.exec = Jvm.exec) (hb : c.code = cc) (hown : s.vm.findClass (q_R o) = some m.cls) (hts : ∀ w ∈ q_big, w.before args s = true) (hF : q_SF ad b0 s s.heap) {idx : Nat} (e2 : (o == 14 && idx == 38) = true) (hdg : decode cc pc = .ok (.getstatic idx, 3)) (hS : va_S (fun q => b0 ≤ q) s.heap H locs) (kk : W p l e R s m args below meth c H locs cells slots Q (F0 m (pc + 3) ls (.int 1 :: r))) : W p l e R s m args below meth c H locs cells slots Q (F0 m pc ls r) := by
  simp only [Bool.and_eq_true, beq_iff_eq] at e2
  obtain ⟨rfl, rfl⟩ := e2
  exact va_gets hx hb hF.1 hS hown (hts _ (q_mem q_wCS rfl)) (fun _ h => h) hdg kk
theorem q_sget_ok (hx : p.tables.exec = Jvm.exec) (hb : c.code = cc) (hown : s.vm.findClass (q_R o) = some m.cls) (hts : ∀ w ∈ q_big, w.before args s = true) (hF : q_SF ad b0 s s.heap) {idx a : Nat} {v : Value} (h : q_sget o idx a = some v) (hdg : decode cc pc = .ok (.getfield idx, 3)) (hS : va_S (fun q => b0 ≤ q) s.heap H locs) (kk : W p l e R s m args below meth c H locs cells slots Q (F0 m (pc + 3) ls (q_v (q_rho b0 ad) v :: r))) : W p l e R s m args below meth c H locs cells slots Q (F0 m pc ls (q_v (q_rho b0 ad) (.ref a) :: r)) := by
  unfold q_sget at h
  have e2 := (q_if_s h).1
  have h2 := (q_if_s h).2
  clear h
  simp only [Bool.and_eq_true, beq_iff_eq, decide_eq_true_eq] at e2
  obtain ⟨⟨e3, e4⟩, e5⟩ := e2
  subst e3
  rw [q_sref e4]
  by_cases h9 : idx = 9
  · rw [if_pos h9] at h2
    cases h2
    subst h9
    have h3 : q_v (q_rho b0 ad) (.ref (a + 2)) = .ref (ad (2 * (a / 4) + 1)) := by
      rw [q_sref3 (show (a + 2) % 4 = 3 by omega), show (a + 2) / 4 = a / 4 by omega]
    rw [h3] at kk
    exact vk_getf hx hb (hF.2.2 _ e5).2.2.1 hS hown (hts _ (q_mem q_wSV rfl)) (fun _ h => h) hdg kk
  · rw [if_neg h9] at h2
    by_cases h15 : idx = 15
    · rw [if_pos h15] at h2
      cases h2
      subst h15
      exact vk_getf hx hb (hF.2.2 _ e5).2.1 hS hown (hts _ (q_mem q_wSC rfl)) (fun _ h => h) hdg kk
    · rw [if_neg h15] at h2
      cases h2
theorem q_sl_s {a n : Nat} (h : q_sl a = some n) : a % 4 = 3 ∧ a / 4 < q_nS ∧ n = (q_sb (a / 4)).length := by
  unfold q_sl at h
  have e2 := (q_if_s h).1
  have h2 := (q_if_s h).2
  clear h
  simp only [Bool.and_eq_true, beq_iff_eq, decide_eq_true_eq] at e2
  exact ⟨e2.1, e2.2, (Option.some.inj h2).symm⟩
theorem q_slen_ok (hx : p.tables.exec = Jvm.exec) (hb : c.code = cc) (hF : q_SF ad b0 s s.heap) {a n : Nat} (h : q_sl a = some n) (hdg : decode cc pc = .ok (.arraylength, 1)) (hS : va_S (fun q => b0 ≤ q) s.heap H locs) (kk : W p l e R s m args below meth c H locs cells slots Q (F0 m (pc + 1) ls (.int (Int32.ofNat n) :: r))) : W p l e R s m args below meth c H locs cells slots Q (F0 m pc ls (q_v (q_rho b0 ad) (.ref a) :: r)) := by
  obtain ⟨h1, h2, rfl⟩ := q_sl_s h
  rw [q_sref3 h1]
  exact va_tlen hx hb (hF.2.2 _ h2).2.2.2 hS rfl hdg kk
theorem q_sbyte_ok (hx : p.tables.exec = Jvm.exec) (hb : c.code = cc) (hF : q_SF ad b0 s s.heap) {a n : Nat} {i : Int32} (h : q_sl a = some n) (hin : q_in i n = true) (hdg : decode cc pc = .ok (.baload, 1)) (hS : va_S (fun q => b0 ≤ q) s.heap H locs) (kk : W p l e R s m args below meth c H locs cells slots Q (F0 m (pc + 1) ls (.int ((q_sb (a / 4)).getD i.toNatClampNeg 0) :: r))) : W p l e R s m args below meth c H locs cells slots Q (F0 m pc ls (.int i :: q_v (q_rho b0 ad) (.ref a) :: r)) := by
  obtain ⟨h1, h2, rfl⟩ := q_sl_s h
  rw [q_sref3 h1]
  exact va_tb hx hb (hF.2.2 _ h2).2.2.2 hS (q_in_s hin) rfl hdg kk
set_option maxRecDepth 20000 in
theorem q_pck (l : Launch) (i n : Int32) (v : Value) (hv : v = .null ∨ ∃ a, v = .ref a) (h1 : ¬ i < 0) (h2 : i < n) : Met l yJ3_checkIndex_8e157 (.code yJ3_checkIndex_8e157 cJ3_checkIndex_8e157 3 (some .int) :: q_big) { frames := 0, cells := 0, slots := 0, locals := 0 } (va_Pc [.int i, .int n, v] (fun _ => True)) (vp_Si (fun r => r = i)) 0 0 (fun _ => False) := by
  refine Met.ofW (cc := cJ3_checkIndex_8e157) (maxL := 3) (ret := some .int) (by decide) rfl ?_
  intro p e s m args below meth c s₁ B hml hv2
  obtain ⟨rfl, -⟩ := hv2
  have hx := B.exec
  have hb := B.bytes
  have hr := B.returns
  have hlocks := B.notSynchronized
  have d0 : decode cJ3_checkIndex_8e157 0 = .ok (.iload_n 0, 1) := by decide +kernel
  have d1 : decode cJ3_checkIndex_8e157 1 = .ok (.ifCond .lt 8, 3) := by decide +kernel
  have d4 : decode cJ3_checkIndex_8e157 4 = .ok (.iload_n 0, 1) := by decide +kernel
  have d5 : decode cJ3_checkIndex_8e157 5 = .ok (.iload_n 1, 1) := by decide +kernel
  have d6 : decode cJ3_checkIndex_8e157 6 = .ok (.if_icmp .lt 10, 3) := by decide +kernel
  have d16 : decode cJ3_checkIndex_8e157 16 = .ok (.iload_n 0, 1) := by decide +kernel
  have d17 : decode cJ3_checkIndex_8e157 17 = .ok (.ireturn, 1) := by decide +kernel
  have hl0 : lv_has ((lg_sl [.int i, .int n, v] ++ List.replicate (3 - (lg_sl [.int i, .int n, v]).length) Slot.unset).toArray) 3 [(0, .int i), (1, .int n), (2, v)] := by
    have := lv_entry ([.int i, .int n, v]) (n := 3) (by rcases hv with rfl | ⟨a, rfl⟩ <;> exact Nat.le_of_ble_eq_true rfl)
    exact this
  rw [lg_entry_eq]
  generalize (lg_sl [.int i, .int n, v] ++ List.replicate (3 - (lg_sl [.int i, .int n, v]).length) Slot.unset).toArray = ls at hl0 ⊢
  refine lv_iload_n hx hb d0 rfl (lv_at hl0 0 rfl) ?_
  refine lv_if_lt (tgt := 9) hx hb d1 (by decide) (fun h => absurd h h1) (fun _ => ?_)
  refine lv_iload_n hx hb d4 rfl (lv_at hl0 0 rfl) ?_
  refine lv_iload_n hx hb d5 rfl (lv_at hl0 1 rfl) ?_
  refine lv_icmp_lt (tgt := 16) hx hb d6 (by decide) (fun _ => ?_) (fun h => absurd h2 h)
  refine lv_iload_n hx hb d16 rfl (lv_at hl0 0 rfl) ?_
  exact W.iret hx hb hr (fun t ht _ => ⟨i, rfl, rfl, by rw [ht]⟩) (fun q h => by cases h) d17 hlocks
set_option maxRecDepth 20000 in
theorem q_ck (l : Launch) (b0 : Nat) (ad : Nat → Nat) (i n : Int32) (h1 : ¬ i < 0) (h2 : i < n) : Met l yJ0_checkIndex_df160 (.code yJ0_checkIndex_df160 cJ0_checkIndex_df160 2 none :: q_big) { frames := 1, cells := 0, slots := 0, locals := 30 } (va_Pc [.int i, .int n] (fun U => q_SF ad b0 U U.heap)) (va_Sv (fun _ => True)) 0 0 (fun _ => False) := by
  refine Met.ofW (cc := cJ0_checkIndex_df160) (maxL := 2) (ret := none) (by decide) rfl ?_
  intro p e s m args below meth c s₁ B hml hv2
  obtain ⟨rfl, hF⟩ := hv2
  have hx := B.exec
  have hb := B.bytes
  have hr := B.returns
  have hlocks := B.notSynchronized
  have hts := atoms_spec (ws := .code yJ0_checkIndex_df160 cJ0_checkIndex_df160 2 none :: q_big) B.pre
  have htb : ∀ w ∈ q_big, w.before #[.int i, .int n] s = true := fun w h => hts w (List.mem_cons_of_mem _ h)
  have hown : s.vm.findClass "java/lang/String" = some m.cls := findClass_of_methodNamed B.named
  have d0 : decode cJ0_checkIndex_df160 0 = .ok (.iload_n 0, 1) := by decide +kernel
  have d1 : decode cJ0_checkIndex_df160 1 = .ok (.iload_n 1, 1) := by decide +kernel
  have d2 : decode cJ0_checkIndex_df160 2 = .ok (.getstatic 1053, 3) := by decide +kernel
  have d5 : decode cJ0_checkIndex_df160 5 = .ok (.invokestatic 1059, 3) := by decide +kernel
  have d8 : decode cJ0_checkIndex_df160 8 = .ok (.pop, 1) := by decide +kernel
  have d9 : decode cJ0_checkIndex_df160 9 = .ok (.return_, 1) := by decide +kernel
  have hl0 : lv_has ((lg_sl [.int i, .int n] ++ List.replicate (2 - (lg_sl [.int i, .int n]).length) Slot.unset).toArray) 2 [(0, .int i), (1, .int n)] := lv_entry ([.int i, .int n]) (n := 2) (Nat.le_of_ble_eq_true rfl)
  rw [lg_entry_eq]
  generalize (lg_sl [.int i, .int n] ++ List.replicate (2 - (lg_sl [.int i, .int n]).length) Slot.unset).toArray = ls at hl0 ⊢
  refine lv_iload_n hx hb d0 rfl (lv_at hl0 0 rfl) ?_
  refine lv_iload_n hx hb d1 rfl (lv_at hl0 1 rfl) ?_
  have hS : va_S (fun q => b0 ≤ q) s.heap s.heap [] := va_S.rf
  have rest : ∀ v : Value, (v = .null ∨ ∃ a, v = .ref a) → W p l e (headSpec (.code yJ0_checkIndex_df160 cJ0_checkIndex_df160 2 none :: q_big) { frames := 1, cells := 0, slots := 0, locals := 30 }).room s m #[.int i, .int n] below meth c s.heap [] 0 0 (MQ below (va_Sv (fun _ => True)) #[.int i, .int n] s 0 0 (fun _ => False)) (F0 m 5 ls [v, .int n, .int i]) := by
    intro v hv
    have hG : GoodIn (.code yJ0_checkIndex_df160 cJ0_checkIndex_df160 2 none :: q_big) (.code yJ3_checkIndex_8e157 cJ3_checkIndex_8e157 3 (some .int) :: q_big) := by
      intro w hw
      rcases List.mem_cons.mp hw with rfl | hw
      · exact ⟨List.mem_cons_of_mem _ (q_mem q_wK7 rfl), good_of_word rfl⟩
      · exact ⟨List.mem_cons_of_mem _ hw, good_of_word (List.mem_filter.mp hw).2⟩
    have hr2 := va_runS (p := p) (l := l) (e := e) (R := { frames := 1, cells := 0, slots := 0, locals := 30 }) (s := s) (m := m) (args := #[.int i, .int n]) (below := below) (meth := meth) (c := c) (H := s.heap) (locs := []) (cells := 0) (slots := 0) (g := F0 m 5 ls [v, .int n, .int i]) (As := [.int i, .int n, v]) (rest := []) (own := "java/lang/String") (index := 1059) ⟨hx, hb, hml, hown, hts⟩ (q_pck l i n v hv h1 h2) ⟨callB_of 3 hts hG rfl rfl rfl (htb _ (q_mem q_wK8 rfl)) (htb _ (q_mem q_wK5 rfl)) ⟨by decide +kernel, by decide +kernel, by decide +kernel⟩ ⟨Nat.le_of_ble_eq_true rfl, Nat.le_of_ble_eq_true rfl⟩, htb _ (q_mem q_wK6 rfl)⟩ ⟨fun a U g mk h => h, fun U hU hW => ⟨rfl, trivial⟩⟩ rfl rfl hl0.1 rfl (Nat.le_of_ble_eq_true rfl) d5 ⟨Nat.le_refl _, Nat.le_refl _⟩
    intro T hT X
    obtain ⟨w, st₀, t, T', L, g0, X', hL, g1, g2, ⟨r, g3, g4, g5⟩, st⟩ := hr2 T hT X
    cases g3
    have hL0 : L = [] := by
      cases L with
      | nil => rfl
      | cons q L => exact absurd (hL q List.mem_cons_self) (fun h => h)
    subst hL0
    have hT' : T'.heap = s.heap := by rw [g1, g5, g0]
    have fin : W p l e { frames := 1, cells := 0, slots := 0, locals := 30 } s m #[.int i, .int n] below meth c s.heap [] 0 0 (MQ below (va_Sv (fun _ => True)) #[.int i, .int n] s 0 0 (fun _ => False)) (F0 m 8 ls [.int r]) := by
      refine lv_pop hx hb d8 rfl ?_
      exact W.vret hx hb hr (fun t ht _ => ⟨rfl, trivial, by rw [ht]⟩) (fun q h => by cases h) d9 hlocks
    obtain ⟨t2, a1, b1⟩ := fin T' hT' X'
    exact ⟨t2, st t2 a1, b1⟩
  rcases hF.2.1 with hz | ⟨t, hz⟩
  · exact va_gets hx hb hz hS hown (htb _ (q_mem q_wK4 rfl)) (fun _ h => h) d2 (rest _ (Or.inl rfl))
  · exact va_gets hx hb hz hS hown (htb _ (q_mem q_wK4 rfl)) (fun _ h => h) d2 (rest _ (Or.inr ⟨_, rfl⟩))
theorem q_ck_ok (hx : p.tables.exec = Jvm.exec) (hb : c.code = cc) (hml : c.maxLocals = nL) (hown : s.vm.findClass (q_R o) = some m.cls) {y0 : Cond} (hts : ∀ w ∈ q_big, w.before args s = true) (hF : q_SF ad b0 s s.heap) {idx : Nat} {i n : Int32} (e1 : (o == 15 && idx == 9) = true) (e2 : (decide (¬ i < 0) && decide (i < n) && decide ((r.map fun v => v.category).sum ≤ 8)) = true) (hR : 3 ≤ R.frames ∧ 100 ≤ R.locals) (hc : cells ≤ R.cells) (hs : slots ≤ R.slots) (hls : ls.size = nL) (hdg : decode cc pc = .ok (.invokestatic idx, 3)) (hS : va_S (fun q => b0 ≤ q) s.heap H locs) (kk : W p l e R s m args below meth c H locs cells slots Q (F0 m (pc + 3) ls (r.map (q_v (q_rho b0 ad))))) : W p l e R s m args below meth c H locs cells slots Q (F0 m pc ls (.int n :: .int i :: r.map (q_v (q_rho b0 ad)))) := by
  simp only [Bool.and_eq_true, beq_iff_eq] at e1
  obtain ⟨rfl, rfl⟩ := e1
  simp only [Bool.and_eq_true, decide_eq_true_eq] at e2
  obtain ⟨⟨h1, h2⟩, h8⟩ := e2
  have hG : GoodIn q_big (.code yJ0_checkIndex_df160 cJ0_checkIndex_df160 2 none :: q_big) := by
    intro w hw
    rcases List.mem_cons.mp hw with rfl | hw
    · exact ⟨q_mem q_wK3 rfl, good_of_word rfl⟩
    · exact ⟨hw, good_of_word (List.mem_filter.mp hw).2⟩
  have hr2 := va_runS (p := p) (l := l) (e := e) (R := R) (s := s) (m := m) (args := args) (below := below) (meth := meth) (c := c) (H := H) (locs := locs) (cells := cells) (slots := slots) (g := F0 m pc ls (.int n :: .int i :: r.map (q_v (q_rho b0 ad)))) (As := [.int i, .int n]) (rest := r.map (q_v (q_rho b0 ad))) (own := q_R 15) (index := 9) ⟨hx, hb, hml, hown, hts⟩ (q_ck l b0 ad i n h1 h2) ⟨callB_of 2 hts hG rfl rfl rfl (hts _ (q_mem q_wK9 rfl)) (hts _ (q_mem q_wK1 rfl)) ⟨by decide +kernel, by decide +kernel, by decide +kernel⟩ ⟨by show 1 + 1 ≤ _; omega, by show 8 + (2 + 11) + 30 ≤ _; omega⟩, hts _ (q_mem q_wK2 rfl)⟩ ⟨fun a U g mk h => ⟨h.1, q_SF.moved (u := U) (U := U.calling g mk a) (Vm.Alike.refl U.vm) h.2⟩, fun U hU hW => ⟨rfl, by show q_SF ad b0 U U.heap; rw [hU]; exact (hF.kept hS.2.1).moved hW.alike⟩⟩ rfl rfl hls rfl (by rw [q_sum_cat]; show 2 * 0 + _ ≤ 8; omega) hdg ⟨hc, hs⟩
  intro T hT X
  obtain ⟨w, st₀, t, T', L, g0, X', hL, g1, g2, ⟨g3, g4, g5⟩, st⟩ := hr2 T hT X
  cases g3
  have hL0 : L = [] := by
    cases L with
    | nil => rfl
    | cons q L => exact absurd (hL q List.mem_cons_self) (fun h => h)
  subst hL0
  rw [List.append_nil] at X'
  obtain ⟨t2, a1, b1⟩ := kk T' (by rw [g1, g5, g0]) X'
  exact ⟨t2, st t2 a1, b1⟩
end QT
/-! new T[n][k] -/
theorem q_outer (c : ClassId) (N h0 : Nat) : ∀ i : Nat, Jvm.Free.Multi.outerC c N h0 i = arrV c N (fun j => va_rf (if j < i then some (h0 + 1 + j) else none))
  | 0 => by
    show ({ cls := c, slots := Array.replicate N .null, vm := .none } : Cell) = _
    rw [arrV_new]
    refine congrArg (arrV c N) (funext fun j => ?_)
    simp [va_rf]
  | i + 1 => by
    show (Jvm.Free.Multi.outerC c N h0 i).setSlot i (.ref (h0 + 1 + i)) = _
    rw [q_outer c N h0 i, arrV_store]
    refine congrArg (arrV c N) (funext fun j => ?_)
    by_cases e : j = i
    · subst e
      simp [updV, va_rf]
    · by_cases h : j < i
      · simp [updV, e, h, Nat.lt_succ_of_lt h]
      · simp [updV, e, h, show ¬ j < i + 1 by omega]
def q_mna (o idx : Nat) : Bool := (o == 9 && idx == 64) || (o == 0 && idx == 24)
theorem q_wM1 : Cond.classLink (q_R 9) 64 ("[" ++ (FieldType.array .int).toString) ∈ lw_tbl := q_lwt (i := 216) (by decide +kernel)
theorem q_wM2 : Cond.classLink (q_R 0) 24 ("[" ++ (FieldType.array .int).toString) ∈ lw_tbl := q_lwt (i := 287) (by decide +kernel)
section QM
variable {p : Program} {l : Launch} {e : Env} {R : Room} {s : State} {m : MethodId} {args : Array Value} {below : List Frame} {meth : Method} {c : Code} {Q : State → Prop} {H0 H : Heap} {D : va_G} {b0 : Nat} {ad : Nat → Nat} {cy : Nat → ClassId} {cc : ByteArray} {nL o : Nat} {locs : List Loc} {cells slots : Nat} {ls : Array Slot} {pc : Nat} {E : q_H} {r : List Value} {ini : Bool}
def q_grid (E : q_H) (N K : Nat) : q_H := .inl (5, N, .inr ((List.range N).map (fun j => (j, 2 * (E.length + 1 + j))))) :: List.replicate N (.inl (1, K, .inl []))
theorem q_mna_ok (hx : p.tables.exec = Jvm.exec) (hb : c.code = cc) (hown : s.vm.findClass (q_R o) = some m.cls) (hts : ∀ w ∈ q_big, w.before args s = true) (hT : q_T ad s) (hK : va_K D vwCl (q_tys cy) s) {idx : Nat} {n k : Int32} (hm : q_mna o idx = true) (e2 : (decide (¬ n < 0) && decide (¬ k < 0) && decide (n.toNatClampNeg * 4 ≤ 536870912) && decide (k.toNatClampNeg * 4 ≤ 536870912)) = true) (hc : cells + (1 + n.toNatClampNeg) ≤ R.cells) (hs : slots + (n.toNatClampNeg + n.toNatClampNeg * k.toNatClampNeg) ≤ R.slots) (hdg : decode cc pc = .ok (.multianewarray idx 2, 4)) (hw : q_W D b0 (q_c (q_rho b0 ad) cy) E H) (hS : va_S (fun q => b0 ≤ q) H0 H locs) (kk : ∀ (H1 : Heap) (locs1 : List Loc), q_W D b0 (q_c (q_rho b0 ad) cy) (E ++ q_grid E n.toNatClampNeg k.toNatClampNeg) H1 → va_S (fun q => b0 ≤ q) H0 H1 locs1 → W p l e R s m args below meth c H1 locs1 (cells + (1 + n.toNatClampNeg)) (slots + (n.toNatClampNeg + n.toNatClampNeg * k.toNatClampNeg)) Q (F0 m (pc + 4) ls (q_v (q_rho b0 ad) (.ref (2 * E.length)) :: r))) : W p l e R s m args below meth c H locs cells slots Q (F0 m pc ls (.int k :: .int n :: r)) := by
  simp only [Bool.and_eq_true, decide_eq_true_eq] at e2
  obtain ⟨⟨⟨hn, hk⟩, hb1⟩, hb2⟩ := e2
  rw [q_ref2] at kk
  have hcl : (Cond.classLink (q_R o) idx ("[" ++ (FieldType.array .int).toString)).before args s = true := by
    unfold q_mna at hm
    simp only [Bool.or_eq_true, Bool.and_eq_true, beq_iff_eq] at hm
    rcases hm with ⟨rfl, rfl⟩ | ⟨rfl, rfl⟩
    · exact hts _ (q_mem q_wM1 rfl)
    · exact hts _ (q_mem q_wM2 rfl)
  have hover : (Cond.arrayOver (.array .int)).before args s = true := hT.2.2.2.2
  intro T hT2 Xs
  obtain ⟨vm₁, cA, comp, -, fA, fC, -, -, X', step⟩ := Xs.multianewarray2F hx hown hcl hover (hts _ (q_mem q_acI rfl)) (g := F0 m pc ls (.int k :: .int n :: r)) rfl (by rw [hb]; exact hdg) rfl hn hk hb1 (by show _ * 4 ≤ _; exact hb2) (by omega) rfl rfl hc hs
  have ec1 : cA = cy 5 := q_cls1 (ty := .int) fA (hK.2 5 _ rfl).2
  have ec2 : comp = cy 1 := q_cls1 (ty := .int) fC (hK.2 1 _ rfl).2
  subst ec1
  subst ec2
  have hTh : (T.setVm vm₁).heap = H := hT2
  generalize hF : Jvm.Free.Multi.fill (T.setVm vm₁) (cy 5) (cy 1) n.toNatClampNeg k.toNatClampNeg (defaultValue .int) n.toNatClampNeg = F at X' step
  obtain ⟨f1, f2, -, -⟩ := Jvm.Free.Multi.fill_facts (T.setVm vm₁) (cy 5) (cy 1) n.toNatClampNeg k.toNatClampNeg (defaultValue .int) n.toNatClampNeg
  rw [hF, hTh] at f1 f2
  have hold : ∀ x : Nat, x < H.size → F.heap[x]? = H[x]? := fun x hx => by
    have := Jvm.Free.Multi.fill_old (T.setVm vm₁) (cy 5) (cy 1) n.toNatClampNeg k.toNatClampNeg (defaultValue .int) (a := x) (by rw [hTh]; exact hx) n.toNatClampNeg
    rw [hF, hTh] at this
    exact this
  have hrow : ∀ j : Nat, j < n.toNatClampNeg → F.heap[H.size + 1 + j]? = some (Jvm.Free.Multi.innerC (cy 1) k.toNatClampNeg (defaultValue .int)) := fun j hj => by
    have := Jvm.Free.Multi.fill_inner (T.setVm vm₁) (cy 5) (cy 1) n.toNatClampNeg k.toNatClampNeg (defaultValue .int) n.toNatClampNeg j hj
    rw [hF, hTh] at this
    exact this
  have hW1 : q_W D b0 (q_c (q_rho b0 ad) cy) (E ++ q_grid E n.toNatClampNeg k.toNatClampNeg) F.heap := by
    refine ⟨?_, ?_⟩
    · rw [f1, hw.1, List.length_append]
      unfold q_grid
      rw [List.length_cons, List.length_replicate]
      omega
    · rw [q_ws_apps]
      refine (hw.2.kept fun j q hj => hold q.1 ((hw.2 j q hj).lt)).app fun j q hj => ?_
      rw [q_ws_get] at hj
      cases j with
      | zero =>
        cases hj
        show F.heap[b0 + E.length + 0]? = some (vp_cell (cy 5) _)
        rw [Nat.add_zero, ← hw.1, f2, q_outer]
        show some (arrV (cy 5) n.toNatClampNeg (fun j => va_rf (if j < n.toNatClampNeg then some (H.size + 1 + j) else none))) = some (arrV (cy 5) n.toNatClampNeg (fun j => va_rf (Option.map (q_rho b0 ad) (q_lr ((List.range n.toNatClampNeg).map (fun j => (j, 2 * (E.length + 1 + j)))) j))))
        refine congrArg some (congrArg (arrV (cy 5) n.toNatClampNeg) (funext fun i => ?_))
        rw [q_lr_range]
        by_cases hi : i < n.toNatClampNeg
        · rw [if_pos hi]
          rw [if_pos hi]
          show va_rf (some _) = va_rf (some (q_rho b0 ad _))
          rw [q_rho0, hw.1]
          congr 2
          omega
        · rw [if_neg hi]
          rw [if_neg hi]
          rfl
      | succ j =>
        unfold q_grid at hj
        rw [List.getElem?_cons_succ] at hj
        by_cases hj2 : j < n.toNatClampNeg
        · rw [List.getElem?_replicate, if_pos hj2] at hj
          cases hj
          show F.heap[b0 + E.length + (j + 1)]? = some (vp_cell (cy 1) _)
          rw [show b0 + E.length + (j + 1) = H.size + 1 + j by rw [hw.1]; omega, hrow j hj2, vp_cell_i]
          refine congrArg some ?_
          show ({ cls := cy 1, slots := Array.replicate k.toNatClampNeg (.int 0), vm := .none } : Cell) = _
          rw [arrV_new]
          rfl
        · rw [List.getElem?_replicate, if_neg hj2] at hj
          cases hj
  have hS1 : va_S (fun q => b0 ≤ q) H0 F.heap locs := ⟨Nat.le_trans hS.1 (by rw [f1]; omega), fun x h1 h2 => (hold x (Nat.lt_of_lt_of_le h1 hS.1)).trans (hS.2.1 x h1 h2), hS.2.2⟩
  rw [show cells + 1 + n.toNatClampNeg = cells + (1 + n.toNatClampNeg) by omega, show slots + n.toNatClampNeg + n.toNatClampNeg * k.toNatClampNeg = slots + (n.toNatClampNeg + n.toNatClampNeg * k.toNatClampNeg) by omega] at X'
  have hk2 := kk F.heap locs hW1 hS1
  rw [← hw.1, ← hT2] at hk2
  obtain ⟨t, a1, b1⟩ := hk2 F rfl X'
  exact ⟨t, step t a1, b1⟩
end QM
