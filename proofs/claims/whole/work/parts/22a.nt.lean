/-! TREES: what an entry's coming and going makes of a tree, over lists -/
/-- an item of a node h levels above the entries: an entry, or a mark and a node -/
def N_i (E : Type) : Nat → Type
  | 0 => E
  | h + 1 => E × List (N_i E h)
def N_mk {E : Type} (h : Nat) (m : E) (l : List (N_i E h)) : N_i E (h + 1) := (m, l)
def N_e {E : Type} (e : E) : N_i E 0 := e
def N_es {E : Type} (l : List (N_i E 0)) : List E := l
def N_pi {E : Type} (l : List (N_i E 0)) (k : Nat) (e : E) : List (N_i E 0) := l.take k ++ N_e e :: l.drop k
section NT
variable {E : Type} (c : E → E → Int)
def N_f : (h : Nat) → N_i E h → E
  | 0, e => e
  | _ + 1, x => x.1
def N_g : (h : Nat) → E → N_i E h → N_i E h
  | 0, _, e => e
  | _ + 1, m, x => (m, x.2)
def N_in : (h : Nat) → N_i E h → List E
  | 0, e => [e]
  | h + 1, x => List.flatMap (N_in h) x.2
/-- the entries below a node -/
def N_ins (h : Nat) (l : List (N_i E h)) : List E := l.flatMap (N_in h)
/-- which child one goes down to; what comes is the marks behind the first child -/
def N_dm (e : E) : List E → Nat
  | [] => 0
  | m :: r => if c m e ≤ 0 then N_dm e r + 1 else 0
def N_ms (h : Nat) (l : List (N_i E (h + 1))) : List E := l.map fun x => x.1
def N_dn (e : E) (h : Nat) (l : List (N_i E (h + 1))) : Nat := N_dm c e (N_ms h l.tail)
def N_pl (e : E) : List E → Nat
  | [] => 0
  | x :: r => if c x e < 0 then N_pl e r + 1 else 0
/-- a node with more than 8 is split -/
def N_spl (h : Nat) (l : List (N_i E h)) : List (N_i E h) × Option (N_i E (h + 1)) := if l.length ≤ 8 then (l, none) else (l.take 4, (l.drop 4).head?.map fun x => (N_f h x, l.drop 4))
def N_ca {h : Nat} (A : List (N_i E (h + 1))) (x : N_i E (h + 1)) (s : List (N_i E h) × Option (N_i E (h + 1))) (B : List (N_i E (h + 1))) : List (N_i E (h + 1)) := A ++ N_mk h x.1 s.1 :: (s.2.toList ++ B)
def N_come (e : E) : (h : Nat) → List (N_i E h) → List (N_i E h) × Option (N_i E (h + 1))
  | 0, l => N_spl 0 (N_pi l (N_pl c e (N_es l)) e)
  | h + 1, l => match l.drop (N_dn c e h l) with
    | [] => (l, none)
    | x :: B => N_spl (h + 1) (N_ca (l.take (N_dn c e h l)) x (N_come e h x.2) B)
/-- the first's mark of a node -/
def N_hd (h : Nat) (m : E) : List (N_i E h) → List (N_i E h)
  | [] => []
  | x :: r => N_g h m x :: r
def N_mg (h : Nat) (a x : N_i E (h + 1)) : N_i E (h + 1) := (a.1, a.2 ++ N_hd h x.1 x.2)
/-- the left one's last comes to the right one -/
def N_bl (h : Nat) (a x : N_i E (h + 1)) : List (N_i E (h + 1)) := match a.2.getLast? with
  | none => [a, x]
  | some y => [(a.1, a.2.dropLast), (N_f h y, y :: N_hd h x.1 x.2)]
/-- the right one's first comes to the left one -/
def N_br (h : Nat) (x b : N_i E (h + 1)) : List (N_i E (h + 1)) := match b.2 with
  | [] => [x, b]
  | y :: r => [(x.1, x.2 ++ [N_g h b.1 y]), ((r.head?.map (N_f h)).getD b.1, r)]
/-- x, between A and B, may have too few -/
def N_fix (h : Nat) (A : List (N_i E (h + 1))) (x : N_i E (h + 1)) (B : List (N_i E (h + 1))) : List (N_i E (h + 1)) :=
  if 4 ≤ x.2.length then A ++ x :: B else
  match A.getLast?, B with
  | some a, [] => if 4 < a.2.length then A.dropLast ++ N_bl h a x else A.dropLast ++ [N_mg h a x]
  | some a, b :: B' => if 4 < a.2.length then A.dropLast ++ (N_bl h a x ++ b :: B') else if 4 < b.2.length then A ++ (N_br h x b ++ B') else A.dropLast ++ N_mg h a x :: b :: B'
  | none, b :: B' => if 4 < b.2.length then N_br h x b ++ B' else N_mg h x b :: B'
  | none, [] => [x]
def N_gone (e : E) : (h : Nat) → List (N_i E h) → List (N_i E h)
  | 0, l => List.eraseIdx l (N_pl c e (N_es l))
  | h + 1, l => match l.drop (N_dn c e h l) with
    | [] => l
    | x :: B => N_fix h (l.take (N_dn c e h l)) (N_mk h x.1 (N_gone e h x.2)) B
/-- x stands ahead of y in a node -/
def N_R (h : Nat) (x y : N_i E (h + 1)) : Prop := (∀ a ∈ N_in (h + 1) x, c a y.1 < 0) ∧ ∀ b ∈ N_in (h + 1) y, c y.1 b ≤ 0
/-- entries and marks are in order -/
def N_ok : (h : Nat) → List (N_i E h) → Prop
  | 0, l => List.Pairwise (fun a b => c a b < 0) (N_es l)
  | h + 1, l => l.Pairwise (N_R c h) ∧ ∀ x ∈ l, N_ok h x.2
/-- all nodes below have 4 to 8 -/
def N_fl : (h : Nat) → List (N_i E h) → Prop
  | 0, _ => True
  | h + 1, l => ∀ x ∈ l, (4 ≤ x.2.length ∧ x.2.length ≤ 8) ∧ N_fl h x.2
theorem N_ok_s {h : Nat} {l : List (N_i E (h + 1))} : N_ok c (h + 1) l ↔ l.Pairwise (N_R c h) ∧ ∀ x ∈ l, N_ok c h x.2 := Iff.rfl
theorem N_ok_0 {l : List (N_i E 0)} : N_ok c 0 l ↔ List.Pairwise (fun a b : E => c a b < 0) (N_es l) := Iff.rfl
theorem N_fl_s {h : Nat} {l : List (N_i E (h + 1))} : N_fl (h + 1) l ↔ ∀ x ∈ l, (4 ≤ x.2.length ∧ x.2.length ≤ 8) ∧ N_fl h x.2 := Iff.rfl
theorem N_in_s {h : Nat} {x : N_i E (h + 1)} : N_in (h + 1) x = N_ins h x.2 := rfl
theorem N_ins_app (h : Nat) (l t : List (N_i E h)) : N_ins h (l ++ t) = N_ins h l ++ N_ins h t := List.flatMap_append
theorem N_ins_c (h : Nat) (x : N_i E h) (t : List (N_i E h)) : N_ins h (x :: t) = N_in h x ++ N_ins h t := List.flatMap_cons
theorem N_ins_n (h : Nat) : N_ins (E := E) h [] = [] := rfl
theorem N_come_0 (e : E) (l : List (N_i E 0)) : N_come c e 0 l = N_spl 0 (N_pi l (N_pl c e (N_es l)) e) := rfl
theorem N_come_s (e : E) {h : Nat} {A : List (N_i E (h + 1))} {x : N_i E (h + 1)} {B : List (N_i E (h + 1))} (hA : A.length = N_dn c e h (A ++ x :: B)) : N_come c e (h + 1) (A ++ x :: B) = N_spl (h + 1) (N_ca A x (N_come c e h x.2) B) := by
  have h1 : (A ++ x :: B).drop (N_dn c e h (A ++ x :: B)) = x :: B := by rw [← hA, List.drop_left]
  have h2 : (A ++ x :: B).take (N_dn c e h (A ++ x :: B)) = A := by rw [← hA, List.take_left]
  show (match (A ++ x :: B).drop (N_dn c e h (A ++ x :: B)) with
    | [] => (A ++ x :: B, none)
    | x_1 :: B_1 => N_spl (h + 1) (N_ca ((A ++ x :: B).take (N_dn c e h (A ++ x :: B))) x_1 (N_come c e h x_1.2) B_1)) = _
  rw [h1, h2]
theorem N_gone_0 (e : E) (l : List (N_i E 0)) : N_gone c e 0 l = List.eraseIdx l (N_pl c e (N_es l)) := rfl
theorem N_gone_s (e : E) {h : Nat} {A : List (N_i E (h + 1))} {x : N_i E (h + 1)} {B : List (N_i E (h + 1))} (hA : A.length = N_dn c e h (A ++ x :: B)) : N_gone c e (h + 1) (A ++ x :: B) = N_fix h A (N_mk h x.1 (N_gone c e h x.2)) B := by
  have h1 : (A ++ x :: B).drop (N_dn c e h (A ++ x :: B)) = x :: B := by rw [← hA, List.drop_left]
  have h2 : (A ++ x :: B).take (N_dn c e h (A ++ x :: B)) = A := by rw [← hA, List.take_left]
  show (match (A ++ x :: B).drop (N_dn c e h (A ++ x :: B)) with
    | [] => A ++ x :: B
    | x_1 :: B_1 => N_fix h ((A ++ x :: B).take (N_dn c e h (A ++ x :: B))) (N_mk h x_1.1 (N_gone c e h x_1.2)) B_1) = _
  rw [h1, h2]
/-- one goes down to some child -/
theorem N_dm_le (e : E) : ∀ r : List E, N_dm c e r ≤ r.length := by
  intro r
  induction r with
  | nil => exact Nat.le_refl _
  | cons m r ih =>
    show (if c m e ≤ 0 then N_dm c e r + 1 else 0) ≤ r.length + 1
    split <;> omega
theorem N_dn_split (e : E) {h : Nat} {l : List (N_i E (h + 1))} (hl : l ≠ []) : ∃ A x B, l = A ++ x :: B ∧ A.length = N_dn c e h l := by
  have h1 : N_dn c e h l < l.length := by
    have := N_dm_le c e (N_ms h l.tail)
    unfold N_ms at this
    rw [List.length_map, List.length_tail] at this
    have h2 := List.length_pos_iff.mpr hl
    unfold N_dn N_ms
    omega
  refine ⟨l.take (N_dn c e h l), l[N_dn c e h l], l.drop (N_dn c e h l + 1), ?_, ?_⟩
  · rw [← List.drop_eq_getElem_cons h1, List.take_append_drop]
  · rw [List.length_take]
    omega
/-- the marks on both sides of that child -/
theorem N_dm_spec (e : E) : ∀ r : List E, (∀ (i : Nat) (m : E), i < N_dm c e r → r[i]? = some m → c m e ≤ 0) ∧ ∀ m : E, r[N_dm c e r]? = some m → ¬ c m e ≤ 0 := by
  intro r
  induction r with
  | nil => exact ⟨fun i m hi => absurd hi (by unfold N_dm; omega), fun m hm => absurd hm (by simp)⟩
  | cons a r ih =>
    by_cases g : c a e ≤ 0
    · have hd : N_dm c e (a :: r) = N_dm c e r + 1 := if_pos g
      rw [hd]
      refine ⟨fun i m hi hm => ?_, fun m hm => ih.2 m (by simpa using hm)⟩
      cases i with
      | zero =>
        have : a = m := by simpa using hm
        exact this ▸ g
      | succ i => exact ih.1 i m (by omega) (by simpa using hm)
    · have hd : N_dm c e (a :: r) = 0 := if_neg g
      rw [hd]
      refine ⟨fun i m hi => absurd hi (by omega), fun m hm => ?_⟩
      have : a = m := by simpa using hm
      exact this ▸ g
end NT
