/-! THE MEMORY OF A POOL -/
def zm_k (e : q_E) : g_S := match e with
  | .inl (t, n, _) => .inr (t, n)
  | .inr (c, _) => .inl c
def zm_ie (e : q_E) (k : Int) : Int := if 0 ≤ k then (match e with
  | .inl (_, _, .inl L) => (q_lk L k.toNat).toInt
  | .inl (_, _, .inr _) => 0
  | .inr (_, fs) => match fs[k.toNat]? with
    | some (.int x) => x.toInt
    | _ => 0) else 0
def zm_re (e : q_E) (k : Int) : Option Nat := if 0 ≤ k then (match e with
  | .inl (_, _, .inl _) => none
  | .inl (_, _, .inr L) => q_lr L k.toNat
  | .inr (_, fs) => match fs[k.toNat]? with
    | some (.ref r) => some r
    | _ => none) else none
def zm_i (E : q_H) (a : Nat) (k : Int) : Int := if a % 2 = 0 then (match E[a / 2]? with
  | some e => zm_ie e k
  | none => 0) else 0
def zm_r (E : q_H) (a : Nat) (k : Int) : Option Nat := if a % 2 = 0 then (match E[a / 2]? with
  | some e => zm_re e k
  | none => none) else none
def zm (E : q_H) : g_M := (E.map zm_k, zm_i E, zm_r E)
def zm_ft (ty : FieldType) (x : Int32) : Bool := match ty with
  | .boolean => x == 0 || x == 1
  | .byte => decide (-128 ≤ x.toInt) && decide (x.toInt ≤ 127)
  | _ => true
/-- a cell is of its type -/
def zm_ok (e : q_E) : Bool := match e with
  | .inl (t, _, .inl L) => decide (t < 3) && L.all (fun q => zm_ft (q_et t) q.2)
  | .inl (t, _, .inr _) => decide (3 ≤ t) && decide (t < 6)
  | .inr (c, fs) => fs.length == q_N c && (List.range (q_N c)).all (fun k => match fs[k]? with
    | some (.int x) => !g_isR (q_Ty c k) && zm_ft (q_Ty c k) x
    | some (.ref _) => g_isR (q_Ty c k)
    | some .null => g_isR (q_Ty c k)
    | _ => false)
theorem zm_ft_s {ty : FieldType} {x : Int32} (h : zm_ft ty x = true) : g_fit ty x.toInt := by
  unfold zm_ft at h
  unfold g_fit
  split at h
  · rw [Bool.or_eq_true, beq_iff_eq, beq_iff_eq] at h
    rcases h with e | e
    · rw [e]
      exact Or.inl rfl
    · rw [e]
      exact Or.inr rfl
  · rw [Bool.and_eq_true, decide_eq_true_eq, decide_eq_true_eq] at h
    exact h
  · split
    · exact absurd rfl (by assumption)
    · exact absurd rfl (by assumption)
    · trivial
theorem zm_ft_0 (ty : FieldType) : g_fit ty 0 := by
  unfold g_fit
  split
  · exact Or.inl rfl
  · exact ⟨by decide, by decide⟩
  · trivial
theorem zm_ie_R (e : q_E) (k : Int) : g_InR (zm_ie e k) := by
  unfold zm_ie
  split
  · split
    · exact g_InR_toInt _
    · exact g_R0
    · split
      · exact g_InR_toInt _
      · exact g_R0
  · exact g_R0
theorem zm_i_2 {E : q_H} {i : Nat} {e : q_E} (h : E[i]? = some e) (k : Int) : zm_i E (2 * i) k = zm_ie e k ∧ zm_r E (2 * i) k = zm_re e k := by
  unfold zm_i zm_r
  rw [if_pos (Nat.mul_mod_right 2 i), if_pos (Nat.mul_mod_right 2 i), Nat.mul_div_cancel_left _ (by decide), h]
  exact ⟨rfl, rfl⟩
theorem zm_lk {L : List (Nat × Int32)} {ty : FieldType} (h : L.all (fun q => zm_ft ty q.2) = true) (j : Nat) : g_fit ty (q_lk L j).toInt := by
  unfold q_lk
  split
  · rename_i q hq
    exact zm_ft_s (List.all_eq_true.mp h q (List.mem_of_find?_eq_some hq))
  · exact zm_ft_0 ty
theorem zm_tyd {E : q_H} {i : Nat} {e : q_E} (h : E[i]? = some e) (ho : zm_ok e = true) : g_tyd (zm E) (2 * i) (zm_k e) := by
  have hi : ∀ k, g_i (zm E) (2 * i) k = zm_ie e k := fun k => (zm_i_2 h k).1
  rcases e with ⟨t, l, L | L⟩ | ⟨c, fs⟩
  · intro ht k
    rw [hi]
    have h1 : (decide (t < 3) && L.all (fun q => zm_ft (q_et t) q.2)) = true := ho
    rw [Bool.and_eq_true] at h1
    unfold zm_ie
    split
    · exact zm_lk h1.2 _
    · exact zm_ft_0 _
  · intro ht k
    rw [hi]
    unfold zm_ie
    split
    · exact zm_ft_0 _
    · exact zm_ft_0 _
  · intro k hk
    rw [hi]
    have h1 : (fs.length == q_N c && (List.range (q_N c)).all (fun k => match fs[k]? with
      | some (.int x) => !g_isR (q_Ty c k) && zm_ft (q_Ty c k) x
      | some (.ref _) => g_isR (q_Ty c k)
      | some .null => g_isR (q_Ty c k)
      | _ => false)) = true := ho
    rw [Bool.and_eq_true] at h1
    have h2 := List.all_eq_true.mp h1.2 k (List.mem_range.mpr hk)
    unfold zm_ie
    rw [if_pos (by omega)]
    show g_fit _ (match fs[((k : Nat) : Int).toNat]? with
      | some (.int x) => x.toInt
      | _ => 0)
    rw [Int.toNat_natCast]
    split
    · rename_i x hx
      rw [hx] at h2
      have h3 : (!g_isR (q_Ty c k) && zm_ft (q_Ty c k) x) = true := h2
      rw [Bool.and_eq_true] at h3
      exact zm_ft_s h3.2
    · exact zm_ft_0 _
theorem zm_cell {E : q_H} {i : Nat} {e : q_E} (h : E[i]? = some e) (ho : zm_ok e = true) : g_cell (zm E) (2 * i) (zm_k e) e := by
  have hi : ∀ k, g_i (zm E) (2 * i) k = zm_ie e k := fun k => (zm_i_2 h k).1
  have hr : ∀ k, g_r (zm E) (2 * i) k = zm_re e k := fun k => (zm_i_2 h k).2
  rcases e with ⟨t, l, L | L⟩ | ⟨c, fs⟩
  · have h1 : (decide (t < 3) && L.all (fun q => zm_ft (q_et t) q.2)) = true := ho
    rw [Bool.and_eq_true, decide_eq_true_eq] at h1
    refine ⟨rfl, rfl, h1.1, fun j => ?_⟩
    rw [hi]
    unfold zm_ie
    rw [if_pos (by omega)]
    show q_lk L j = Int32.ofInt (q_lk L ((j : Nat) : Int).toNat).toInt
    rw [Int.toNat_natCast, Int32.ofInt_toInt]
  · have h1 : (decide (3 ≤ t) && decide (t < 6)) = true := ho
    rw [Bool.and_eq_true, decide_eq_true_eq, decide_eq_true_eq] at h1
    refine ⟨rfl, rfl, h1.1, h1.2, fun j => ?_⟩
    rw [hr]
    unfold zm_re
    rw [if_pos (by omega)]
    show q_lr L j = q_lr L ((j : Nat) : Int).toNat
    rw [Int.toNat_natCast]
  · have h1 : (fs.length == q_N c && (List.range (q_N c)).all (fun k => match fs[k]? with
      | some (.int x) => !g_isR (q_Ty c k) && zm_ft (q_Ty c k) x
      | some (.ref _) => g_isR (q_Ty c k)
      | some .null => g_isR (q_Ty c k)
      | _ => false)) = true := ho
    rw [Bool.and_eq_true, beq_iff_eq] at h1
    refine ⟨rfl, h1.1, fun k hk => ?_⟩
    have h2 := List.all_eq_true.mp h1.2 k (List.mem_range.mpr hk)
    have hlt : k < fs.length := by omega
    have e0 : fs[k]? = some (fs[k]'hlt) := List.getElem?_eq_getElem hlt
    have hk0 : (0 : Int) ≤ (k : Int) := by omega
    have e1 : zm_ie (.inr (c, fs)) (k : Int) = match fs[k]? with
      | some (.int x) => x.toInt
      | _ => 0 := by
      unfold zm_ie
      rw [if_pos hk0]
      show (match fs[((k : Nat) : Int).toNat]? with
        | some (.int x) => x.toInt
        | _ => 0) = _
      rw [Int.toNat_natCast]
    have e2 : zm_re (.inr (c, fs)) (k : Int) = match fs[k]? with
      | some (.ref r) => some r
      | _ => none := by
      unfold zm_re
      rw [if_pos hk0]
      show (match fs[((k : Nat) : Int).toNat]? with
        | some (.ref r) => some r
        | _ => none) = _
      rw [Int.toNat_natCast]
    unfold g_fv
    rw [hi, hr, e1, e2]
    rw [e0] at h2 ⊢
    generalize fs[k]'hlt = v at h2 ⊢
    cases v with
    | int x =>
      have h3 : (!g_isR (q_Ty c k) && zm_ft (q_Ty c k) x) = true := h2
      rw [Bool.and_eq_true, Bool.not_eq_true'] at h3
      rw [h3.1, if_neg (by decide)]
      show some (Value.int x) = some (g_n x.toInt)
      rw [g_n_toInt]
    | ref r =>
      have h3 : g_isR (q_Ty c k) = true := h2
      rw [h3, if_pos rfl]
      rfl
    | null =>
      have h3 : g_isR (q_Ty c k) = true := h2
      rw [h3, if_pos rfl]
      rfl
    | _ => exact absurd h2 (by simp)
theorem zm_Rel {E : q_H} (h : E.all zm_ok = true) : g_Rel E (zm E) := by
  have ho : ∀ (i : Nat) (e : q_E), E[i]? = some e → zm_ok e = true := fun i e hi => List.all_eq_true.mp h e (List.mem_of_getElem? hi)
  have hm : ∀ (i : Nat) (c : g_S), (E.map zm_k)[i]? = some c → ∃ e, E[i]? = some e ∧ c = zm_k e := fun i c hc => by
    rw [List.getElem?_map] at hc
    obtain ⟨e, he, e2⟩ := Option.map_eq_some_iff.mp hc
    exact ⟨e, he, e2.symm⟩
  refine ⟨(List.length_map _).symm, ⟨fun a k => ?_, fun a c hc => ?_⟩, fun i c e h1 h2 => ?_⟩
  · show g_InR (zm_i E a k)
    unfold zm_i
    split
    · split
      · exact zm_ie_R _ _
      · exact g_R0
    · exact g_R0
  · obtain ⟨e1, e2⟩ := g_sh_s hc
    obtain ⟨e, he, ec⟩ := hm _ _ e2
    rw [e1, ec]
    exact zm_tyd he (ho _ _ he)
  · obtain ⟨e', he, ec⟩ := hm _ _ h1
    rw [h2] at he
    rw [ec, ← Option.some.inj he]
    exact zm_cell h2 (ho _ _ h2)
/-- whether a ref stands for an object, a row -/
def zm_is (E : q_H) (y : Nat) (s : Bool × Nat × Int) : Bool := y % 2 == 0 && (match (E[y / 2]?).map zm_k with
  | some (.inl c) => s.1 && c == s.2.1
  | some (.inr (t, n)) => !s.1 && (t == s.2.1 && decide ((n : Int) = s.2.2))
  | none => false)
theorem zm_is_s {E : q_H} {y : Nat} {s : Bool × Nat × Int} (h : zm_is E y s = true) : Ck_is (zm E) y s := by
  unfold zm_is at h
  rw [Bool.and_eq_true, beq_iff_eq] at h
  obtain ⟨h1, h2⟩ := h
  have hs : g_sh (zm E) y = (E[y / 2]?).map zm_k := by
    unfold g_sh
    rw [if_pos h1]
    exact List.getElem?_map
  unfold Ck_is
  cases hk : (E[y / 2]?).map zm_k with
  | none =>
    rw [hk] at h2
    exact absurd h2 (by simp)
  | some c =>
    rw [hk] at h2 hs
    rcases c with c | ⟨t, n⟩
    · have h3 : (s.1 && c == s.2.1) = true := h2
      rw [Bool.and_eq_true, beq_iff_eq] at h3
      rw [if_pos h3.1, ← h3.2]
      exact hs
    · have h3 : (!s.1 && (t == s.2.1 && decide ((n : Int) = s.2.2))) = true := h2
      rw [Bool.and_eq_true, Bool.and_eq_true, Bool.not_eq_true', beq_iff_eq, decide_eq_true_eq] at h3
      rw [if_neg (by rw [h3.1]; decide), ← h3.2.1]
      exact ⟨n, hs, h3.2.2⟩
/-- all refs of a cell are such -/
def zm_rs (P : Nat → Bool) (e : q_E) : Bool := match e with
  | .inl (_, _, .inl _) => true
  | .inl (_, _, .inr L) => L.all (fun q => P q.2)
  | .inr (_, fs) => fs.all (fun v => match v with
    | .ref r => P r
    | _ => true)
theorem zm_rs_s {P : Nat → Bool} {K : Nat → Prop} {n : Nat} {e : q_E} (h : zm_rs P e = true) (hP : ∀ r, P r = true → r % 2 = 0 → r / 2 < n ∧ ¬ K (r / 2)) : zk_eok K n e := by
  rcases e with ⟨t, l, L | L⟩ | ⟨c, fs⟩
  · trivial
  · intro j b hb
    have h1 : L.all (fun q => P q.2) = true := h
    unfold q_lr at hb
    obtain ⟨q, hq, e2⟩ := Option.map_eq_some_iff.mp hb
    have h2 := List.all_eq_true.mp h1 q (List.mem_of_find?_eq_some hq)
    rw [e2] at h2
    exact hP b h2
  · intro v hv
    have h1 : fs.all (fun v => match v with
      | .ref r => P r
      | _ => true) = true := h
    have h2 := List.all_eq_true.mp h1 v hv
    cases v with
    | ref r => exact hP r h2
    | _ => trivial
