/-! THE MEMORY: what a heap of cells holds, as functions of whole numbers -/
/-- a cell's kind: an object of a class, or a row (its type's number, its length) -/
abbrev g_S : Type := Nat ⊕ (Nat × Nat)
/-- the cells' kinds in order; whole numbers by ref and place; refs by ref and place -/
abbrev g_M : Type := List g_S × (Nat → Int → Int) × (Nat → Int → Option Nat)
def g_sh (M : g_M) (a : Nat) : Option g_S := if a % 2 = 0 then M.1[a / 2]? else none
def g_i (M : g_M) (a : Nat) (k : Int) : Int := M.2.1 a k
def g_r (M : g_M) (a : Nat) (k : Int) : Option Nat := M.2.2 a k
def g_wi (M : g_M) (a : Nat) (k v : Int) : g_M := (M.1, fun x j => if x = a ∧ j = k then v else M.2.1 x j, M.2.2)
def g_wr (M : g_M) (a : Nat) (k : Int) (v : Option Nat) : g_M := (M.1, M.2.1, fun x j => if x = a ∧ j = k then v else M.2.2 x j)
def g_cp (M : g_M) (a0 a : Nat) (sp dp n : Int) : g_M := (M.1, fun x j => if x = a ∧ dp ≤ j ∧ j < dp + n then M.2.1 a0 (sp + (j - dp)) else M.2.1 x j, M.2.2)
def g_nw (M : g_M) (t n : Nat) : g_M := (M.1 ++ [.inr (t, n)], fun x j => if x = 2 * M.1.length then 0 else M.2.1 x j, fun x j => if x = 2 * M.1.length then none else M.2.2 x j)
theorem g_sh_wi (M : g_M) (a : Nat) (k v : Int) (x : Nat) : g_sh (g_wi M a k v) x = g_sh M x := rfl
theorem g_sh_wr (M : g_M) (a : Nat) (k : Int) (v : Option Nat) (x : Nat) : g_sh (g_wr M a k v) x = g_sh M x := rfl
theorem g_sh_cp (M : g_M) (a0 a : Nat) (sp dp n : Int) (x : Nat) : g_sh (g_cp M a0 a sp dp n) x = g_sh M x := rfl
theorem g_i_wi (M : g_M) (a : Nat) (k v : Int) (x : Nat) (j : Int) : g_i (g_wi M a k v) x j = if x = a ∧ j = k then v else g_i M x j := rfl
theorem g_r_wi (M : g_M) (a : Nat) (k v : Int) (x : Nat) (j : Int) : g_r (g_wi M a k v) x j = g_r M x j := rfl
theorem g_i_wr (M : g_M) (a : Nat) (k : Int) (v : Option Nat) (x : Nat) (j : Int) : g_i (g_wr M a k v) x j = g_i M x j := rfl
theorem g_r_wr (M : g_M) (a : Nat) (k : Int) (v : Option Nat) (x : Nat) (j : Int) : g_r (g_wr M a k v) x j = if x = a ∧ j = k then v else g_r M x j := rfl
theorem g_i_cp (M : g_M) (a0 a : Nat) (sp dp n : Int) (x : Nat) (j : Int) : g_i (g_cp M a0 a sp dp n) x j = if x = a ∧ dp ≤ j ∧ j < dp + n then g_i M a0 (sp + (j - dp)) else g_i M x j := rfl
theorem g_r_cp (M : g_M) (a0 a : Nat) (sp dp n : Int) (x : Nat) (j : Int) : g_r (g_cp M a0 a sp dp n) x j = g_r M x j := rfl
/-- an object of a class; a row of a type and a length -/
def g_O (M : g_M) (a ci : Nat) : Prop := g_sh M a = some (.inl ci)
def g_A (M : g_M) (a t : Nat) (n : Int) : Prop := ∃ m : Nat, g_sh M a = some (.inr (t, m)) ∧ (m : Int) = n
theorem g_A.wi {M : g_M} {b t : Nat} {n : Int} (a : Nat) (k v : Int) (h : g_A M b t n) : g_A (g_wi M a k v) b t n := h
theorem g_A.wr {M : g_M} {b t : Nat} {n : Int} (a : Nat) (k : Int) (v : Option Nat) (h : g_A M b t n) : g_A (g_wr M a k v) b t n := h
theorem g_O.wi {M : g_M} {b ci : Nat} (a : Nat) (k v : Int) (h : g_O M b ci) : g_O (g_wi M a k v) b ci := h
theorem g_O.wr {M : g_M} {b ci : Nat} (a : Nat) (k : Int) (v : Option Nat) (h : g_O M b ci) : g_O (g_wr M a k v) b ci := h
theorem g_A.len {M : g_M} {a t : Nat} {n : Int} (h : g_A M a t n) : 0 ≤ n := by
  obtain ⟨m, -, rfl⟩ := h
  omega
theorem g_A.fn {M : g_M} {a t u : Nat} {n k : Int} (h : g_A M a t n) (h2 : g_A M a u k) : t = u ∧ n = k := by
  obtain ⟨m, h1, rfl⟩ := h
  obtain ⟨m2, h3, rfl⟩ := h2
  rw [h1] at h3
  cases h3
  exact ⟨rfl, rfl⟩
/-- numbers of 32 bits -/
def g_InR (x : Int) : Prop := -2147483648 ≤ x ∧ x ≤ 2147483647
def g_n (x : Int) : Value := .int (Int32.ofInt x)
theorem g_toInt {x : Int} (h : g_InR x) : (Int32.ofInt x).toInt = x := Int32.toInt_ofInt_of_le (by have := h.1; omega) (by have := h.2; omega)
theorem g_InR_toInt (x : Int32) : g_InR x.toInt := ⟨by have h := x.minValue_le_toInt; rw [show Int32.minValue.toInt = -2147483648 from rfl] at h; exact h, by have h := x.toInt_le; rw [show Int32.maxValue.toInt = 2147483647 from rfl] at h; exact h⟩
theorem g_n_toInt (x : Int32) : g_n x.toInt = .int x := by
  unfold g_n
  rw [Int32.ofInt_toInt]
theorem g_ofInj {x z : Int} (hx : g_InR x) (hz : g_InR z) : (Int32.ofInt x = Int32.ofInt z) ↔ x = z := by
  constructor
  · intro h
    have := congrArg Int32.toInt h
    rwa [g_toInt hx, g_toInt hz] at this
  · intro h
    rw [h]
theorem g_ofLt {x z : Int} (hx : g_InR x) (hz : g_InR z) : (Int32.ofInt x < Int32.ofInt z) ↔ x < z := by
  rw [Int32.lt_iff_toInt_lt, g_toInt hx, g_toInt hz]
theorem g_ofLe {x z : Int} (hx : g_InR x) (hz : g_InR z) : (Int32.ofInt x ≤ Int32.ofInt z) ↔ x ≤ z := by
  rw [Int32.le_iff_toInt_le, g_toInt hx, g_toInt hz]
theorem g_R0 : g_InR 0 := ⟨by decide, by decide⟩
theorem g_of0 : (0 : Int32) = Int32.ofInt 0 := rfl
theorem g_clamp {x : Int} (h : g_InR x) : (Int32.ofInt x).toNatClampNeg = x.toNat := Int32.toNatClampNeg_ofInt_of_le (by have := h.1; omega) (by have := h.2; omega)
/-- what a variable of a type may hold -/
def g_fit (ty : FieldType) (x : Int) : Prop := match ty with
  | .boolean => x = 0 ∨ x = 1
  | .byte => -128 ≤ x ∧ x ≤ 127
  | _ => True
def g_isR (ty : FieldType) : Bool := match ty with
  | .object _ => true
  | .array _ => true
  | _ => false
def g_tyd (M : g_M) (a : Nat) (c : g_S) : Prop := match c with
  | .inl ci => ∀ k : Nat, k < q_N ci → g_fit (q_Ty ci k) (g_i M a k)
  | .inr (t, _) => t < 3 → ∀ k : Int, g_fit (q_et t) (g_i M a k)
def g_ok (M : g_M) : Prop := (∀ a k, g_InR (g_i M a k)) ∧ ∀ a c, g_sh M a = some c → g_tyd M a c
theorem g_ok.byte {M : g_M} (h : g_ok M) {a : Nat} {n : Int} (hA : g_A M a 0 n) (k : Int) : -128 ≤ g_i M a k ∧ g_i M a k ≤ 127 := by
  obtain ⟨m, h1, -⟩ := hA
  exact h.2 _ _ h1 (by decide) k
theorem g_ok.bool {M : g_M} (h : g_ok M) {a : Nat} {n : Int} (hA : g_A M a 2 n) (k : Int) : g_i M a k = 0 ∨ g_i M a k = 1 := by
  obtain ⟨m, h1, -⟩ := hA
  exact h.2 _ _ h1 (by decide) k
def g_fv (M : g_M) (a ci k : Nat) : Value := if g_isR (q_Ty ci k) then va_rf (g_r M a k) else g_n (g_i M a k)
/-- a cell of the heap holds what the memory says of it -/
def g_cell (M : g_M) (a : Nat) (c : g_S) (e : q_E) : Prop := match c, e with
  | .inl ci, .inr (cj, fs) => cj = ci ∧ fs.length = q_N ci ∧ ∀ k : Nat, k < q_N ci → fs[k]? = some (g_fv M a ci k)
  | .inr (t, n), .inl (t', n', .inl L) => t' = t ∧ n' = n ∧ t < 3 ∧ ∀ j : Nat, q_lk L j = Int32.ofInt (g_i M a j)
  | .inr (t, n), .inl (t', n', .inr L) => t' = t ∧ n' = n ∧ 3 ≤ t ∧ t < 6 ∧ ∀ j : Nat, q_lr L j = g_r M a j
  | _, _ => False
def g_Rel (E : q_H) (M : g_M) : Prop := E.length = M.1.length ∧ g_ok M ∧ ∀ (i : Nat) (c : g_S) (e : q_E), M.1[i]? = some c → E[i]? = some e → g_cell M (2 * i) c e
def g_sz (c : g_S) : Nat := match c with
  | .inl ci => q_N ci
  | .inr (_, n) => n
/-- fields and elements in all -/
def g_sl (M : g_M) : Nat := (M.1.map g_sz).sum
def g_ext (M M1 : g_M) : Prop := ∀ a c, g_sh M a = some c → g_sh M1 a = some c
theorem g_ext.rf (M : g_M) : g_ext M M := fun _ _ h => h
theorem g_ext.tr {M M1 M2 : g_M} (h : g_ext M M1) (h2 : g_ext M1 M2) : g_ext M M2 := fun a c q => h2 a c (h a c q)
theorem g_O.up {M M1 : g_M} {a ci : Nat} (h : g_O M a ci) (hx : g_ext M M1) : g_O M1 a ci := hx _ _ h
theorem g_A.up {M M1 : g_M} {a t : Nat} {n : Int} (h : g_A M a t n) (hx : g_ext M M1) : g_A M1 a t n := by
  obtain ⟨m, h1, h2⟩ := h
  exact ⟨m, hx _ _ h1, h2⟩
theorem g_cell_congr {M M1 : g_M} {a : Nat} {c : g_S} {e : q_E} (hi : ∀ k, g_i M1 a k = g_i M a k) (hr : ∀ k, g_r M1 a k = g_r M a k) (h : g_cell M a c e) : g_cell M1 a c e := by
  unfold g_cell at h ⊢
  split at h
  · obtain ⟨h1, h2, h3⟩ := h
    refine ⟨h1, h2, fun k hk => ?_⟩
    rw [h3 k hk]
    unfold g_fv
    rw [hi, hr]
  · obtain ⟨h1, h2, h3, h4⟩ := h
    exact ⟨h1, h2, h3, fun j => by rw [h4, hi]⟩
  · obtain ⟨h1, h2, h3, h5, h4⟩ := h
    exact ⟨h1, h2, h3, h5, fun j => by rw [h4, hr]⟩
  · exact h.elim
theorem g_sh_s {M : g_M} {a : Nat} {c : g_S} (h : g_sh M a = some c) : a = 2 * (a / 2) ∧ M.1[a / 2]? = some c := by
  unfold g_sh at h
  split at h
  · exact ⟨by omega, h⟩
  · cases h
theorem g_Rel.at {E : q_H} {M : g_M} (hE : g_Rel E M) {a : Nat} {c : g_S} (h : g_sh M a = some c) : (a % 2 == 0) = true ∧ ∃ e, E[a / 2]? = some e ∧ g_cell M a c e := by
  obtain ⟨h1, h2⟩ := g_sh_s h
  have h3 : a / 2 < E.length := by
    rw [hE.1]
    exact (List.getElem?_eq_some_iff.mp h2).1
  refine ⟨by simp; omega, E[a / 2], List.getElem?_eq_getElem h3, ?_⟩
  have h4 := hE.2.2 (a / 2) c _ h2 (List.getElem?_eq_getElem h3)
  rwa [← h1] at h4
theorem g_Rel.obj {E : q_H} {M : g_M} (hE : g_Rel E M) {a ci : Nat} (h : g_O M a ci) : ∃ fs, E[a / 2]? = some (.inr (ci, fs)) ∧ q_obj E a ci = some fs ∧ fs.length = q_N ci ∧ ∀ k : Nat, k < q_N ci → fs[k]? = some (g_fv M a ci k) := by
  obtain ⟨hz, e, h1, h2⟩ := hE.at h
  unfold g_cell at h2
  split at h2
  · rename_i hc
    cases hc
    obtain ⟨rfl, h3, h4⟩ := h2
    refine ⟨_, h1, ?_, h3, h4⟩
    unfold q_obj q_cell
    rw [hz, h1]
    simp [q_if]
  · rename_i hc
    cases hc
  · rename_i hc
    cases hc
  · exact h2.elim
theorem g_Rel.arr {E : q_H} {M : g_M} (hE : g_Rel E M) {a t : Nat} {n : Int} (h : g_A M a t n) (ht : t < 3) : ∃ (m : Nat) (L : List (Nat × Int32)), E[a / 2]? = some (.inl (t, m, .inl L)) ∧ q_arr E a = some (t, m, L) ∧ (m : Int) = n ∧ g_sh M a = some (.inr (t, m)) ∧ ∀ j : Nat, q_lk L j = Int32.ofInt (g_i M a j) := by
  obtain ⟨m, hm, rfl⟩ := h
  obtain ⟨hz, e, h1, h2⟩ := hE.at hm
  unfold g_cell at h2
  split at h2
  · rename_i hc
    cases hc
  · rename_i hc
    cases hc
    obtain ⟨rfl, rfl, h3, h4⟩ := h2
    refine ⟨_, _, h1, ?_, rfl, hm, h4⟩
    unfold q_arr q_cell
    rw [hz, h1]
    rfl
  · rename_i hc
    cases hc
    omega
  · exact h2.elim
theorem g_Rel.arrR {E : q_H} {M : g_M} (hE : g_Rel E M) {a t : Nat} {n : Int} (h : g_A M a t n) (ht : 3 ≤ t) : ∃ (m : Nat) (L : List (Nat × Nat)), E[a / 2]? = some (.inl (t, m, .inr L)) ∧ q_arrR E a = some (t, m, L) ∧ (m : Int) = n ∧ t < 6 ∧ ∀ j : Nat, q_lr L j = g_r M a j := by
  obtain ⟨m, hm, rfl⟩ := h
  obtain ⟨hz, e, h1, h2⟩ := hE.at hm
  unfold g_cell at h2
  split at h2
  · rename_i hc
    cases hc
  · rename_i hc
    cases hc
    omega
  · rename_i hc
    cases hc
    obtain ⟨rfl, rfl, h3, h5, h4⟩ := h2
    refine ⟨_, _, h1, ?_, rfl, h5, h4⟩
    unfold q_arrR q_cell
    rw [hz, h1]
    rfl
  · exact h2.elim
theorem g_Rel.alen {E : q_H} {M : g_M} (hE : g_Rel E M) {a t : Nat} {n : Int} (h : g_A M a t n) : ∃ m : Nat, q_alen E a = some m ∧ (m : Int) = n := by
  by_cases ht : t < 3
  · obtain ⟨m, L, h1, -, h2, h3, -⟩ := hE.arr h ht
    refine ⟨m, ?_, h2⟩
    obtain ⟨hz, -⟩ := hE.at h3
    unfold q_alen q_cell
    rw [hz, h1]
    show q_if (decide (t < 6)) (some m) = some m
    rw [show decide (t < 6) = true by simp; omega]
    rfl
  · obtain ⟨m, L, h1, -, h2, h3, -⟩ := hE.arrR h (by omega)
    refine ⟨m, ?_, h2⟩
    obtain ⟨m2, hm2, -⟩ := h
    obtain ⟨hz, -⟩ := hE.at hm2
    unfold q_alen q_cell
    rw [hz, h1]
    show q_if (decide (t < 6)) (some m) = some m
    rw [show decide (t < 6) = true by simp; omega]
    rfl
/-- a cell is written -/
theorem g_Rel.upd {E : q_H} {M M1 : g_M} {a : Nat} {c : g_S} {e : q_E} (hE : g_Rel E M) (ha : g_sh M a = some c) (h1 : M1.1 = M.1) (hi : ∀ x, x ≠ a → ∀ k, g_i M1 x k = g_i M x k) (hr : ∀ x, x ≠ a → ∀ k, g_r M1 x k = g_r M x k) (hok : g_ok M1) (hc : g_cell M1 a c e) : g_Rel (E.set (a / 2) e) M1 := by
  obtain ⟨h2, h3⟩ := g_sh_s ha
  refine ⟨by rw [List.length_set, h1]; exact hE.1, hok, fun i c' e' k1 k2 => ?_⟩
  rw [h1] at k1
  by_cases hz : i = a / 2
  · subst hz
    rw [h3] at k1
    cases k1
    rw [List.getElem?_set] at k2
    rw [if_pos rfl] at k2
    split at k2
    · cases k2
      rwa [← h2]
    · cases k2
  · rw [List.getElem?_set, if_neg (fun q => hz q.symm)] at k2
    exact g_cell_congr (fun k => hi _ (by omega) k) (fun k => hr _ (by omega) k) (hE.2.2 i c' e' k1 k2)
theorem g_ok.wi {M : g_M} (h : g_ok M) {a : Nat} {k v : Int} {c : g_S} (hv : g_InR v) (ha : g_sh M a = some c) (hf : match c with
    | .inl ci => ∀ j : Nat, (j : Int) = k → j < q_N ci → g_fit (q_Ty ci j) v
    | .inr (t, _) => t < 3 → g_fit (q_et t) v) : g_ok (g_wi M a k v) := by
  refine ⟨fun x j => ?_, fun x c' hx => ?_⟩
  · rw [g_i_wi]
    split
    · exact hv
    · exact h.1 x j
  · have h2 := h.2 x c' hx
    by_cases hz : x = a
    · subst hz
      rw [g_sh_wi, ha] at hx
      cases hx
      cases c with
      | inl ci =>
        intro j hj
        rw [g_i_wi]
        split
        · rename_i q
          exact hf j q.2 hj
        · exact h2 j hj
      | inr q =>
        intro ht j
        rw [g_i_wi]
        split
        · exact hf ht
        · exact h2 ht j
    · cases c' with
      | inl ci =>
        intro j hj
        rw [g_i_wi, if_neg (fun q => hz q.1)]
        exact h2 j hj
      | inr q =>
        intro ht j
        rw [g_i_wi, if_neg (fun q => hz q.1)]
        exact h2 ht j
theorem g_ok.wr {M : g_M} (h : g_ok M) (a : Nat) (k : Int) (v : Option Nat) : g_ok (g_wr M a k v) := ⟨h.1, fun x c hx => by
  have h2 := h.2 x c hx
  cases c with
  | inl ci => exact h2
  | inr q => exact h2⟩
/-! RUNS over the memory -/
/-- the locals hold what lv says of them -/
def g_lv (lv lv' : q_L) : Prop := (lv'.map (fun q => q.1)).Nodup ∧ ∀ i v, q_get lv i = some v → q_get lv' i = some v
/-- method y, from pc on with these locals, this stack, this memory, d calls deep at most, returns so that Q -/
def g_Run (d y pc : Nat) (lv : q_L) (st : List Value) (M : g_M) (Q : Option Value → g_M → Prop) : Prop :=
  ∀ (lv' : q_L) (E : q_H), g_lv lv lv' → g_Rel E M → ∀ c0 s0 : Nat, ∃ (v : Option Value) (E' : q_H) (M' : g_M) (c1 s1 N : Nat), (∀ F n : Nat, N ≤ F → N ≤ n → q_run (q_callf F d) (q_own y) (q_maxL y) (q_ini y) (q_code y) (q_ret y) n pc lv' st E c0 s0 = some (v, E', c1, s1)) ∧ g_Rel E' M' ∧ c1 + M.1.length = c0 + M'.1.length ∧ s1 + g_sl M = s0 + g_sl M' ∧ g_ext M M' ∧ Q v M'
def g_Call (d y : Nat) (as : List Value) (M : g_M) (Q : Option Value → g_M → Prop) : Prop :=
  ∀ E : q_H, g_Rel E M → ∃ (v : Option Value) (E' : q_H) (M' : g_M) (c s N : Nat), (∀ F : Nat, N ≤ F → q_callf F d y as E = some (v, E', c, s)) ∧ g_Rel E' M' ∧ c + M.1.length = M'.1.length ∧ s + g_sl M = g_sl M' ∧ g_ext M M' ∧ Q v M'
section G
variable {d y pc pc1 len k idx z ns a b ci t : Nat} {lv lv1 : q_L} {st r as : List Value} {M M1 : g_M} {ins : Instr} {Q : Option Value → g_M → Prop} {v w : Value} {x u : Int} {X Y : Int64}
theorem g_Run.mono {Q2 : Option Value → g_M → Prop} (h : g_Run d y pc lv st M Q) (hq : ∀ v M1, g_ext M M1 → Q v M1 → Q2 v M1) : g_Run d y pc lv st M Q2 := by
  intro lv' E hl hE c0 s0
  obtain ⟨v, E', M', c1, s1, N, h1, h2, h3, h4, h5, h6⟩ := h lv' E hl hE c0 s0
  exact ⟨v, E', M', c1, s1, N, h1, h2, h3, h4, h5, hq v M' h5 h6⟩
theorem g_Call.mono {Q2 : Option Value → g_M → Prop} (h : g_Call d y as M Q) (hq : ∀ v M1, g_ext M M1 → Q v M1 → Q2 v M1) : g_Call d y as M Q2 := by
  intro E hE
  obtain ⟨v, E', M', c1, s1, N, h1, h2, h3, h4, h5, h6⟩ := h E hE
  exact ⟨v, E', M', c1, s1, N, h1, h2, h3, h4, h5, hq v M' h5 h6⟩
theorem g_Run.ok (h : g_ok M → g_Run d y pc lv st M Q) : g_Run d y pc lv st M Q := fun lv' E hl hE => h hE.2.1 lv' E hl hE
theorem g_Call.ok (h : g_ok M → g_Call d y as M Q) : g_Call d y as M Q := fun E hE => h hE.2.1 E hE
theorem g_lv.get (h : g_lv lv lv1) {i : Nat} (hv : q_get lv i = some v) : q_get lv1 i = some v := h.2 i v hv
/-- fewer locals are known -/
def g_keep (ks : List Nat) (lv : q_L) : q_L := lv.filter (fun q => ks.contains q.1)
theorem g_keep_get {ks : List Nat} : ∀ (lv : q_L) {i : Nat} {v : Value}, q_get (g_keep ks lv) i = some v → q_get lv i = some v := by
  intro lv
  induction lv with
  | nil => intro i v h; exact h
  | cons q lv ih =>
    intro i v h
    unfold q_get at h ih ⊢
    unfold g_keep at h ih
    rw [List.filter_cons] at h
    rw [List.find?_cons]
    by_cases hk : ks.contains q.1 = true
    · rw [if_pos hk, List.find?_cons] at h
      split
      · rename_i h1
        rw [h1] at h
        exact h
      · rename_i h1
        rw [h1] at h
        exact ih h
    · rw [if_neg hk] at h
      have h2 := ih h
      split
      · rename_i h1
        exfalso
        have e1 : q.1 = i := eq_of_beq h1
        have : ∀ l : q_L, (l.filter (fun q => ks.contains q.1)).find? (fun q => q.1 == i) = none := by
          intro l
          rw [List.find?_eq_none]
          intro p hp
          have h3 := (List.mem_filter.mp hp).2
          intro h4
          have e2 : p.1 = i := eq_of_beq h4
          rw [e2, ← e1] at h3
          exact hk h3
        rw [this] at h
        cases h
      · exact h2
theorem g_drop (ks : List Nat) (he : g_keep ks lv = lv1) (h : g_Run d y pc lv1 st M Q) : g_Run d y pc lv st M Q := by
  subst he
  exact fun lv' E hl hE => h lv' E ⟨hl.1, fun i v hv => hl.2 i v (g_keep_get lv hv)⟩ hE
/-- a local is set: in order -/
def g_ins (i : Nat) (v : Value) : q_L → q_L
  | [] => [(i, v)]
  | q :: l => bif Nat.ble q.1 i then q :: g_ins i v l else (i, v) :: q :: l
def g_set (lv : q_L) (i : Nat) (v : Value) : q_L := g_ins i v (lv.filter (fun q => !(q.1 == i) && !(q.1 + 1 == i && q.2.category == 2)))
def g_setl (lv : q_L) (i : Nat) (v : Int64) : q_L := g_ins i (.long v) (lv.filter (fun q => !(q.1 == i) && (!(q.1 == i + 1) && !(q.1 + 1 == i && q.2.category == 2))))
theorem g_ins_get (i : Nat) (v : Value) : ∀ (l : q_L) {j : Nat} {w : Value}, q_get (g_ins i v l) j = some w → (∀ q ∈ l, q.1 ≠ i) → (j = i ∧ w = v) ∨ q_get l j = some w := by
  intro l
  induction l with
  | nil =>
    intro j w h _
    unfold q_get g_ins at h
    rw [List.find?_cons] at h
    split at h
    · rename_i h1
      cases h
      exact Or.inl ⟨(eq_of_beq h1).symm, rfl⟩
    · cases h
  | cons q l ih =>
    intro j w h hn
    unfold g_ins at h
    cases hb : Nat.ble q.1 i with
    | true =>
      rw [hb] at h
      unfold q_get at h ⊢
      rw [cond_true, List.find?_cons] at h
      rw [List.find?_cons]
      cases hc : q.1 == j with
      | true =>
        rw [hc] at h
        exact Or.inr h
      | false =>
        rw [hc] at h
        exact ih h (fun p hp => hn p (List.mem_cons_of_mem _ hp))
    | false =>
      rw [hb] at h
      unfold q_get at h ⊢
      rw [cond_false, List.find?_cons] at h
      cases hc : i == j with
      | true =>
        rw [show (((i, v) : Nat × Value).1 == j) = true from hc] at h
        cases h
        exact Or.inl ⟨(eq_of_beq hc).symm, rfl⟩
      | false =>
        rw [show (((i, v) : Nat × Value).1 == j) = false from hc] at h
        exact Or.inr h
theorem g_flt_get {p : Nat × Value → Bool} : ∀ (lv' lv : q_L), (lv'.map (fun q => q.1)).Nodup → (∀ i v, q_get lv i = some v → q_get lv' i = some v) → ∀ {i : Nat} {v : Value}, q_get (lv.filter p) i = some v → p (i, v) = true → q_get lv i = some v → q_get (lv'.filter p) i = some v := by
  intro lv' lv hn hs i v _ hp h2
  have h3 := hs i v h2
  obtain ⟨k, hk⟩ := q_get_k h3
  unfold q_get
  have hm : (i, v) ∈ lv'.filter p := List.mem_filter.mpr ⟨List.mem_of_getElem? hk, hp⟩
  have hn2 : ((lv'.filter p).map (fun q => q.1)).Nodup := List.Nodup.sublist (List.Sublist.map _ List.filter_sublist) hn
  generalize lv'.filter p = l at hm hn2
  induction l with
  | nil => cases hm
  | cons q l ih =>
    rw [List.find?_cons]
    rcases List.mem_cons.mp hm with h | h
    · subst h
      simp
    · have h5 : (q.1 == i) = false := by
        rw [List.map_cons, List.nodup_cons] at hn2
        have : i ∈ l.map (fun q => q.1) := List.mem_map.mpr ⟨(i, v), h, rfl⟩
        simp only [beq_eq_false_iff_ne]
        intro e
        rw [e] at hn2
        exact hn2.1 this
      rw [h5]
      exact ih h (by rw [List.map_cons, List.nodup_cons] at hn2; exact hn2.2)
theorem g_flt_mem {p : Nat × Value → Bool} : ∀ (lv : q_L) {i : Nat} {v : Value}, q_get (lv.filter p) i = some v → p (i, v) = true := by
  intro lv i v h
  obtain ⟨k, hk⟩ := q_get_k h
  exact (List.mem_filter.mp (List.mem_of_getElem? hk)).2
/-- lists of locals whose places are apart -/
theorem g_flt_same {p : Nat × Value → Bool} (lv : q_L) (hn : (lv.map (fun q => q.1)).Nodup) {i : Nat} {v : Value} (h : q_get (lv.filter p) i = some v) : q_get lv i = some v := by
  have hm : (i, v) ∈ lv := by
    obtain ⟨k, hk⟩ := q_get_k h
    exact (List.mem_filter.mp (List.mem_of_getElem? hk)).1
  unfold q_get
  induction lv with
  | nil => cases hm
  | cons q l ih =>
    rw [List.find?_cons]
    rw [List.map_cons, List.nodup_cons] at hn
    rcases List.mem_cons.mp hm with h1 | h1
    · subst h1
      simp
    · have h5 : (q.1 == i) = false := by
        have : i ∈ l.map (fun q => q.1) := List.mem_map.mpr ⟨(i, v), h1, rfl⟩
        simp only [beq_eq_false_iff_ne]
        intro e
        rw [e] at hn
        exact hn.1 this
      rw [h5]
      have hg : q_get (l.filter p) i = some v := by
        unfold q_get at h ⊢
        rw [List.filter_cons] at h
        split at h
        · rw [List.find?_cons, h5] at h
          exact h
        · exact h
      exact ih hn.2 hg h1
theorem g_lv.set {lv' : q_L} (hn : (lv.map (fun q => q.1)).Nodup) (h : g_lv lv lv') (i : Nat) (v : Value) : g_lv (g_set lv i v) (q_set lv' i v) := by
  refine ⟨?_, fun j w hw => ?_⟩
  · unfold q_set
    rw [List.map_cons, List.nodup_cons]
    refine ⟨fun hm => ?_, List.Nodup.sublist (List.Sublist.map _ List.filter_sublist) h.1⟩
    obtain ⟨q, hq, e⟩ := List.mem_map.mp hm
    have := (List.mem_filter.mp hq).2
    rw [show (q.1 == i) = true by simpa using e] at this
    cases this
  · unfold g_set at hw
    rcases g_ins_get i v _ hw (fun q hq => by
      have := (List.mem_filter.mp hq).2
      intro e
      rw [show (q.1 == i) = true by simpa using e] at this
      cases this) with ⟨rfl, rfl⟩ | h2
    · unfold q_set q_get
      rw [List.find?_cons]
      simp
    · have h3 := g_flt_mem lv h2
      have h4 := g_flt_get lv' lv h.1 h.2 h2 h3 (g_flt_same lv hn h2)
      unfold q_set q_get
      rw [List.find?_cons]
      have h5 : (i == j) = false := by
        simp only [Bool.and_eq_true, Bool.not_eq_true', beq_eq_false_iff_ne] at h3
        simp only [beq_eq_false_iff_ne]
        exact fun e => h3.1 e.symm
      rw [h5]
      exact h4
theorem g_lv.setl {lv' : q_L} (hn : (lv.map (fun q => q.1)).Nodup) (h : g_lv lv lv') (i : Nat) (v : Int64) : g_lv (g_setl lv i v) (q_setl lv' i v) := by
  refine ⟨?_, fun j w hw => ?_⟩
  · unfold q_setl
    rw [List.map_cons, List.nodup_cons]
    refine ⟨fun hm => ?_, List.Nodup.sublist (List.Sublist.map _ List.filter_sublist) h.1⟩
    obtain ⟨q, hq, e⟩ := List.mem_map.mp hm
    have := (List.mem_filter.mp hq).2
    rw [show (q.1 == i) = true by simpa using e] at this
    cases this
  · unfold g_setl at hw
    rcases g_ins_get i (.long v) _ hw (fun q hq => by
      have := (List.mem_filter.mp hq).2
      intro e
      rw [show (q.1 == i) = true by simpa using e] at this
      cases this) with ⟨rfl, rfl⟩ | h2
    · unfold q_setl q_get
      rw [List.find?_cons]
      simp
    · have h3 := g_flt_mem lv h2
      have h4 := g_flt_get lv' lv h.1 h.2 h2 h3 (g_flt_same lv hn h2)
      unfold q_setl q_get
      rw [List.find?_cons]
      have h5 : (i == j) = false := by
        simp only [Bool.and_eq_true, Bool.not_eq_true', beq_eq_false_iff_ne] at h3
        simp only [beq_eq_false_iff_ne]
        exact fun e => h3.1 e.symm
      rw [h5]
      exact h4
/-- a step that is no call and no return -/
theorem g_step {st1 : List Value} (hd : decode (q_code y) pc = .ok (ins, len)) (hk : q_kind ins = none) (hr : q_rets (q_ret y) ins len st = none) (hx : g_ext M M1) (h : ∀ (lv' : q_L) (E : q_H), g_lv lv lv' → g_Rel E M → ∃ (lv1' : q_L) (E1 : q_H) (dc ds : Nat), q_step (q_own y) (q_maxL y) (q_ini y) ins len pc lv' st E = some (pc1, lv1', st1, E1, dc, ds) ∧ g_lv lv1 lv1' ∧ g_Rel E1 M1 ∧ dc + M.1.length = M1.1.length ∧ ds + g_sl M = g_sl M1) (kk : g_Run d y pc1 lv1 st1 M1 Q) : g_Run d y pc lv st M Q := by
  intro lv' E hl hE c0 s0
  obtain ⟨lv1', E1, dc, ds, h1, h2, h3, h4, h5⟩ := h lv' E hl hE
  obtain ⟨v, E', M', c1, s1, N, k1, k2, k3, k4, k5, k6⟩ := kk lv1' E1 h2 h3 (c0 + dc) (s0 + ds)
  refine ⟨v, E', M', c1, s1, N + 1, fun F n hF hn => ?_, k2, by omega, by omega, hx.tr k5, k6⟩
  obtain ⟨m, rfl⟩ : ∃ m, n = m + 1 := ⟨n - 1, by omega⟩
  have hcl : q_cl (q_callf F d) (q_own y) ins len st E = none := by
    unfold q_cl
    rw [hk]
    rfl
  have k7 := k1 F m (by omega) (by omega)
  unfold q_run
  simp only [q_nf_eq, hd, hr, hcl, h1]
  exact k7
/-- a step that leaves the memory as it is -/
theorem g_st0 {st1 : List Value} (hd : decode (q_code y) pc = .ok (ins, len)) (hk : q_kind ins = none) (hr : q_rets (q_ret y) ins len st = none) (h : ∀ (lv' : q_L) (E : q_H), g_lv lv lv' → g_Rel E M → q_step (q_own y) (q_maxL y) (q_ini y) ins len pc lv' st E = some (pc1, lv', st1, E, 0, 0)) (kk : g_Run d y pc1 lv st1 M Q) : g_Run d y pc lv st M Q :=
  g_step hd hk hr (g_ext.rf M) (fun lv' E hl hE => ⟨lv', E, 0, 0, h lv' E hl hE, hl, hE, Nat.zero_add _, Nat.zero_add _⟩) kk
theorem r_iconst {n : Int} (hd : decode (q_code y) pc = .ok (.iconst n, 1)) (kk : g_Run d y (pc + 1) lv (g_n n :: st) M Q) : g_Run d y pc lv st M Q :=
  g_st0 hd rfl rfl (fun _ _ _ _ => rfl) kk
theorem r_bipush {n : Int} (hd : decode (q_code y) pc = .ok (.bipush n, 2)) (hx : (Int8.ofInt n).toInt32 = Int32.ofInt x) (kk : g_Run d y (pc + 2) lv (g_n x :: st) M Q) : g_Run d y pc lv st M Q :=
  g_st0 hd rfl rfl (fun lv' E _ _ => by
    show some (pc + 2, lv', Value.int (Int8.ofInt n).toInt32 :: st, E, 0, 0) = some (pc + 2, lv', Value.int (Int32.ofInt x) :: st, E, 0, 0)
    rw [hx]) kk
theorem r_sipush {n : Int} (hd : decode (q_code y) pc = .ok (.sipush n, 3)) (hx : (Int16.ofInt n).toInt32 = Int32.ofInt x) (kk : g_Run d y (pc + 3) lv (g_n x :: st) M Q) : g_Run d y pc lv st M Q :=
  g_st0 hd rfl rfl (fun lv' E _ _ => by
    show some (pc + 3, lv', Value.int (Int16.ofInt n).toInt32 :: st, E, 0, 0) = some (pc + 3, lv', Value.int (Int32.ofInt x) :: st, E, 0, 0)
    rw [hx]) kk
theorem r_ldc (hd : decode (q_code y) pc = .ok (.ldc idx, 2)) (hx : q_ldc (q_own y) idx = some v) (kk : g_Run d y (pc + 2) lv (v :: st) M Q) : g_Run d y pc lv st M Q :=
  g_st0 hd rfl rfl (fun lv' E _ _ => by
    show (q_ldc (q_own y) idx).bind _ = _
    rw [hx]
    rfl) kk
theorem r_ldcw (hd : decode (q_code y) pc = .ok (.ldc_w idx, 3)) (hx : q_ldc (q_own y) idx = some v) (kk : g_Run d y (pc + 3) lv (v :: st) M Q) : g_Run d y pc lv st M Q :=
  g_st0 hd rfl rfl (fun lv' E _ _ => by
    show (q_ldc (q_own y) idx).bind _ = _
    rw [hx]
    rfl) kk
theorem r_ldc2 (hd : decode (q_code y) pc = .ok (.ldc2_w idx, 3)) (hx : q_ldc2 (q_own y) idx = some X) (kk : g_Run d y (pc + 3) lv (.long X :: st) M Q) : g_Run d y pc lv st M Q :=
  g_st0 hd rfl rfl (fun lv' E _ _ => by
    show (q_ldc2 (q_own y) idx).bind _ = _
    rw [hx]
    rfl) kk
theorem r_lconst {n : Fin 2} (hd : decode (q_code y) pc = .ok (.lconst n, 1)) (kk : g_Run d y (pc + 1) lv (.long (Int64.ofNat n.val) :: st) M Q) : g_Run d y pc lv st M Q :=
  g_st0 hd rfl rfl (fun _ _ _ _ => rfl) kk
theorem r_null (hd : decode (q_code y) pc = .ok (.aconst_null, 1)) (kk : g_Run d y (pc + 1) lv (.null :: st) M Q) : g_Run d y pc lv st M Q :=
  g_st0 hd rfl rfl (fun _ _ _ _ => rfl) kk
theorem g_geti {lv' : q_L} {x : Int32} (h : q_get lv' k = some (.int x)) : q_geti lv' k = some x := by
  unfold q_geti
  rw [h]
theorem g_getl {lv' : q_L} {x : Int64} (h : q_get lv' k = some (.long x)) : q_getl lv' k = some x := by
  unfold q_getl
  rw [h]
theorem g_geta {lv' : q_L} (h : q_get lv' k = some (.ref a)) : q_geta lv' k = some (.ref a) := by
  unfold q_geta
  rw [h]
theorem r_iload_n {k : Fin 4} {x : Int32} (hd : decode (q_code y) pc = .ok (.iload_n k, 1)) (hx : q_get lv k.val = some (.int x)) (kk : g_Run d y (pc + 1) lv (.int x :: st) M Q) : g_Run d y pc lv st M Q :=
  g_st0 hd rfl rfl (fun lv' E hl _ => by
    show (q_geti lv' k.val).bind _ = _
    rw [g_geti (hl.get hx)]
    rfl) kk
theorem r_iload {x : Int32} (hd : decode (q_code y) pc = .ok (.iload k, 2)) (hx : q_get lv k = some (.int x)) (kk : g_Run d y (pc + 2) lv (.int x :: st) M Q) : g_Run d y pc lv st M Q :=
  g_st0 hd rfl rfl (fun lv' E hl _ => by
    show (q_geti lv' k).bind _ = _
    rw [g_geti (hl.get hx)]
    rfl) kk
theorem r_aload_n {k : Fin 4} (hd : decode (q_code y) pc = .ok (.aload_n k, 1)) (hx : q_get lv k.val = some (.ref a)) (kk : g_Run d y (pc + 1) lv (.ref a :: st) M Q) : g_Run d y pc lv st M Q :=
  g_st0 hd rfl rfl (fun lv' E hl _ => by
    show (q_geta lv' k.val).bind _ = _
    rw [g_geta (hl.get hx)]
    rfl) kk
theorem r_aload (hd : decode (q_code y) pc = .ok (.aload k, 2)) (hx : q_get lv k = some (.ref a)) (kk : g_Run d y (pc + 2) lv (.ref a :: st) M Q) : g_Run d y pc lv st M Q :=
  g_st0 hd rfl rfl (fun lv' E hl _ => by
    show (q_geta lv' k).bind _ = _
    rw [g_geta (hl.get hx)]
    rfl) kk
theorem g_getaV {lv' : q_L} {o : Option Nat} (h : q_get lv' k = some (va_rf o)) : q_geta lv' k = some (va_rf o) := by
  unfold q_geta
  rw [h]
  cases o <;> rfl
theorem r_aloadO {o : Option Nat} (hd : decode (q_code y) pc = .ok (.aload k, 2)) (hx : q_get lv k = some (va_rf o)) (kk : g_Run d y (pc + 2) lv (va_rf o :: st) M Q) : g_Run d y pc lv st M Q :=
  g_st0 hd rfl rfl (fun lv' E hl _ => by
    show (q_geta lv' k).bind _ = _
    rw [g_getaV (hl.get hx)]
    rfl) kk
theorem r_aload_nO {k : Fin 4} {o : Option Nat} (hd : decode (q_code y) pc = .ok (.aload_n k, 1)) (hx : q_get lv k.val = some (va_rf o)) (kk : g_Run d y (pc + 1) lv (va_rf o :: st) M Q) : g_Run d y pc lv st M Q :=
  g_st0 hd rfl rfl (fun lv' E hl _ => by
    show (q_geta lv' k.val).bind _ = _
    rw [g_getaV (hl.get hx)]
    rfl) kk
theorem r_lload_n {k : Fin 4} (hd : decode (q_code y) pc = .ok (.lload_n k, 1)) (hx : q_get lv k.val = some (.long X)) (kk : g_Run d y (pc + 1) lv (.long X :: st) M Q) : g_Run d y pc lv st M Q :=
  g_st0 hd rfl rfl (fun lv' E hl _ => by
    show (q_getl lv' k.val).bind _ = _
    rw [g_getl (hl.get hx)]
    rfl) kk
theorem r_lload (hd : decode (q_code y) pc = .ok (.lload k, 2)) (hx : q_get lv k = some (.long X)) (kk : g_Run d y (pc + 2) lv (.long X :: st) M Q) : g_Run d y pc lv st M Q :=
  g_st0 hd rfl rfl (fun lv' E hl _ => by
    show (q_getl lv' k).bind _ = _
    rw [g_getl (hl.get hx)]
    rfl) kk
/-- the places rise -/
def g_asc : q_L → Bool
  | [] => true
  | q :: l => l.all (fun p => Nat.blt q.1 p.1) && g_asc l
theorem g_asc_nd : ∀ {lv : q_L}, g_asc lv = true → (lv.map (fun q => q.1)).Nodup := by
  intro lv
  induction lv with
  | nil => intro _; exact List.nodup_nil
  | cons q l ih =>
    intro h
    unfold g_asc at h
    simp only [Bool.and_eq_true, List.all_eq_true, Nat.blt_eq] at h
    rw [List.map_cons, List.nodup_cons]
    refine ⟨fun hm => ?_, ih h.2⟩
    obtain ⟨p, hp, e⟩ := List.mem_map.mp hm
    have h2 := h.1 p hp
    have e : p.1 = q.1 := e
    omega
theorem r_istore_n {k : Fin 4} {x : Int32} (hd : decode (q_code y) pc = .ok (.istore_n k, 1)) (hL : decide (k.val < q_maxL y) = true) (hn : g_asc lv = true) (he : g_set lv k.val (.int x) = lv1) (kk : g_Run d y (pc + 1) lv1 st M Q) : g_Run d y pc lv (.int x :: st) M Q :=
  g_step hd rfl rfl (g_ext.rf M) (fun lv' E hl hE => ⟨q_set lv' k.val (.int x), E, 0, 0, by
    show q_if (decide (k.val < q_maxL y)) (q_fc (q_set lv' k.val (.int x)) _) = _
    rw [hL, q_fc_eq]
    rfl, by rw [← he]; exact hl.set (g_asc_nd hn) _ _, hE, Nat.zero_add _, Nat.zero_add _⟩) kk
theorem r_istore {x : Int32} (hd : decode (q_code y) pc = .ok (.istore k, 2)) (hL : decide (k < q_maxL y) = true) (hn : g_asc lv = true) (he : g_set lv k (.int x) = lv1) (kk : g_Run d y (pc + 2) lv1 st M Q) : g_Run d y pc lv (.int x :: st) M Q :=
  g_step hd rfl rfl (g_ext.rf M) (fun lv' E hl hE => ⟨q_set lv' k (.int x), E, 0, 0, by
    show q_if (decide (k < q_maxL y)) (q_fc (q_set lv' k (.int x)) _) = _
    rw [hL, q_fc_eq]
    rfl, by rw [← he]; exact hl.set (g_asc_nd hn) _ _, hE, Nat.zero_add _, Nat.zero_add _⟩) kk
theorem r_astore_n {k : Fin 4} {o : Option Nat} (hd : decode (q_code y) pc = .ok (.astore_n k, 1)) (hL : decide (k.val < q_maxL y) = true) (hn : g_asc lv = true) (he : g_set lv k.val (va_rf o) = lv1) (kk : g_Run d y (pc + 1) lv1 st M Q) : g_Run d y pc lv (va_rf o :: st) M Q :=
  g_step hd rfl (by cases o <;> rfl) (g_ext.rf M) (fun lv' E hl hE => ⟨q_set lv' k.val (va_rf o), E, 0, 0, by
    cases o with
    | none =>
      show q_if (decide (k.val < q_maxL y)) (q_fc (q_set lv' k.val .null) _) = _
      rw [hL, q_fc_eq]
      rfl
    | some b =>
      show q_if (decide (k.val < q_maxL y)) (q_fc (q_set lv' k.val (.ref b)) _) = _
      rw [hL, q_fc_eq]
      rfl, by rw [← he]; exact hl.set (g_asc_nd hn) _ _, hE, Nat.zero_add _, Nat.zero_add _⟩) kk
theorem r_astore {o : Option Nat} (hd : decode (q_code y) pc = .ok (.astore k, 2)) (hL : decide (k < q_maxL y) = true) (hn : g_asc lv = true) (he : g_set lv k (va_rf o) = lv1) (kk : g_Run d y (pc + 2) lv1 st M Q) : g_Run d y pc lv (va_rf o :: st) M Q :=
  g_step hd rfl (by cases o <;> rfl) (g_ext.rf M) (fun lv' E hl hE => ⟨q_set lv' k (va_rf o), E, 0, 0, by
    cases o with
    | none =>
      show q_if (decide (k < q_maxL y)) (q_fc (q_set lv' k .null) _) = _
      rw [hL, q_fc_eq]
      rfl
    | some b =>
      show q_if (decide (k < q_maxL y)) (q_fc (q_set lv' k (.ref b)) _) = _
      rw [hL, q_fc_eq]
      rfl, by rw [← he]; exact hl.set (g_asc_nd hn) _ _, hE, Nat.zero_add _, Nat.zero_add _⟩) kk
theorem r_lstore_n {k : Fin 4} (hd : decode (q_code y) pc = .ok (.lstore_n k, 1)) (hL : decide (k.val + 1 < q_maxL y) = true) (hn : g_asc lv = true) (he : g_setl lv k.val X = lv1) (kk : g_Run d y (pc + 1) lv1 st M Q) : g_Run d y pc lv (.long X :: st) M Q :=
  g_step hd rfl rfl (g_ext.rf M) (fun lv' E hl hE => ⟨q_setl lv' k.val X, E, 0, 0, by
    show q_if (decide (k.val + 1 < q_maxL y)) (q_fc (q_setl lv' k.val X) _) = _
    rw [hL, q_fc_eq]
    rfl, by rw [← he]; exact hl.setl (g_asc_nd hn) _ _, hE, Nat.zero_add _, Nat.zero_add _⟩) kk
theorem r_lstore (hd : decode (q_code y) pc = .ok (.lstore k, 2)) (hL : decide (k + 1 < q_maxL y) = true) (hn : g_asc lv = true) (he : g_setl lv k X = lv1) (kk : g_Run d y (pc + 2) lv1 st M Q) : g_Run d y pc lv (.long X :: st) M Q :=
  g_step hd rfl rfl (g_ext.rf M) (fun lv' E hl hE => ⟨q_setl lv' k X, E, 0, 0, by
    show q_if (decide (k + 1 < q_maxL y)) (q_fc (q_setl lv' k X) _) = _
    rw [hL, q_fc_eq]
    rfl, by rw [← he]; exact hl.setl (g_asc_nd hn) _ _, hE, Nat.zero_add _, Nat.zero_add _⟩) kk
theorem r_iinc {n : Int} (hd : decode (q_code y) pc = .ok (.iinc k n, 3)) (hL : decide (k < q_maxL y) = true) (hx : q_get lv k = some (g_n x)) (hn : g_asc lv = true) (he : g_set lv k (g_n (x + n)) = lv1) (kk : g_Run d y (pc + 3) lv1 st M Q) : g_Run d y pc lv st M Q :=
  g_step hd rfl rfl (g_ext.rf M) (fun lv' E hl hE => ⟨q_set lv' k (g_n (x + n)), E, 0, 0, by
    show q_if (decide (k < q_maxL y)) ((q_geti lv' k).bind fun x => q_fc (q_set lv' k (.int (x + Int32.ofInt n))) _) = _
    rw [hL, g_geti (hl.get hx)]
    show q_fc (q_set lv' k (.int (Int32.ofInt x + Int32.ofInt n))) _ = _
    rw [q_fc_eq, ← Int32.ofInt_add]
    rfl, by rw [← he]; exact hl.set (g_asc_nd hn) _ _, hE, Nat.zero_add _, Nat.zero_add _⟩) kk
theorem r_iadd (hd : decode (q_code y) pc = .ok (.iadd, 1)) (kk : g_Run d y (pc + 1) lv (g_n (x + u) :: st) M Q) : g_Run d y pc lv (g_n u :: g_n x :: st) M Q :=
  g_st0 hd rfl rfl (fun lv' E _ _ => by
    show some (pc + 1, lv', Value.int (Int32.ofInt x + Int32.ofInt u) :: st, E, 0, 0) = _
    rw [← Int32.ofInt_add]
    rfl) kk
theorem r_isub (hd : decode (q_code y) pc = .ok (.isub, 1)) (kk : g_Run d y (pc + 1) lv (g_n (x - u) :: st) M Q) : g_Run d y pc lv (g_n u :: g_n x :: st) M Q :=
  g_st0 hd rfl rfl (fun lv' E _ _ => by
    show some (pc + 1, lv', Value.int (Int32.ofInt x - Int32.ofInt u) :: st, E, 0, 0) = _
    rw [← Int32.ofInt_sub]
    rfl) kk
theorem r_imul (hd : decode (q_code y) pc = .ok (.imul, 1)) (kk : g_Run d y (pc + 1) lv (g_n (x * u) :: st) M Q) : g_Run d y pc lv (g_n u :: g_n x :: st) M Q :=
  g_st0 hd rfl rfl (fun lv' E _ _ => by
    show some (pc + 1, lv', Value.int (Int32.ofInt x * Int32.ofInt u) :: st, E, 0, 0) = _
    rw [← Int32.ofInt_mul]
    rfl) kk
theorem r_ineg (hd : decode (q_code y) pc = .ok (.ineg, 1)) (kk : g_Run d y (pc + 1) lv (g_n (-x) :: st) M Q) : g_Run d y pc lv (g_n x :: st) M Q :=
  g_st0 hd rfl rfl (fun lv' E _ _ => by
    show some (pc + 1, lv', Value.int (-Int32.ofInt x) :: st, E, 0, 0) = _
    rw [← Int32.ofInt_neg]
    rfl) kk
end G
