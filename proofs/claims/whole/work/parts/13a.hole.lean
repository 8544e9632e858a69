/-! CHANGES: a hole in nested documents; what changes say -/
/-- a document or row around: its kind, its name, what stands ahead of the hole, what behind -/
abbrev h_F : Type := Int × List Int × List b_E × List b_E
def h_hs (h : Nat) : List h_F → Nat
  | [] => h
  | f :: c => f.2.1.length + (b_ser f.2.2.1).length + h_hs h c + (b_ser f.2.2.2).length + 7
def h_sz (h : Nat) (f : h_F) (c : List h_F) : Nat := (b_ser f.2.2.1).length + h_hs h c + (b_ser f.2.2.2).length + 5
def h_q (p : Int) (f : h_F) : Int := p + 6 + f.2.1.length + (b_ser f.2.2.1).length
def h_at : Int → List h_F → Int
  | p, [] => p
  | p, f :: c => h_at (h_q p f) c
/-- nested documents with a hole of h bytes -/
def h_Z (B : Int → Int) (h : Nat) : Int → List h_F → Prop
  | _, [] => True
  | p, f :: c => b_at B p (f.1 :: (f.2.1 ++ [0])) ∧ b_at B (p + 2 + f.2.1.length) (b_le4 (h_sz h f c)) ∧ b_at B (p + 6 + f.2.1.length) (b_ser f.2.2.1) ∧ h_Z B h (h_q p f) c ∧ b_at B (h_q p f + h_hs h c) (b_ser f.2.2.2 ++ [0])
/-- the places of their sizes -/
def h_fl : Int → List h_F → Int → Prop
  | _, [], _ => False
  | p, f :: c, k => (p + 2 + f.2.1.length ≤ k ∧ k < p + 6 + f.2.1.length) ∨ h_fl (h_q p f) c k
def h_sd (B : Int → Int) (h : Nat) : Int → List h_F → Prop
  | _, [] => True
  | p, f :: c => b_at B (p + 2 + f.2.1.length) (b_le4 (h_sz h f c)) ∧ h_sd B h (h_q p f) c
theorem h_at_ge : ∀ (c : List h_F) (p : Int), p ≤ h_at p c := by
  intro c
  induction c with
  | nil => exact fun p => Int.le_refl p
  | cons f c ih =>
    intro p
    have := ih (h_q p f)
    show p ≤ h_at (h_q p f) c
    unfold h_q at this ⊢
    omega
theorem h_at_in (h : Nat) : ∀ (c : List h_F) (p : Int), h_at p c + h ≤ p + h_hs h c := by
  intro c
  induction c with
  | nil => exact fun p => Int.le_refl _
  | cons f c ih =>
    intro p
    have := ih (h_q p f)
    show h_at (h_q p f) c + h ≤ p + (f.2.1.length + (b_ser f.2.2.1).length + h_hs h c + (b_ser f.2.2.2).length + 7 : Nat)
    unfold h_q at this ⊢
    omega
theorem h_fl_lt : ∀ (c : List h_F) (p k : Int), h_fl p c k → p ≤ k ∧ k < h_at p c := by
  intro c
  induction c with
  | nil => exact fun p k h => h.elim
  | cons f c ih =>
    intro p k h
    have h1 := h_at_ge c (h_q p f)
    show p ≤ k ∧ k < h_at (h_q p f) c
    rcases h with h | h
    · unfold h_q at h1 ⊢
      omega
    · have h2 := ih _ _ h
      have h3 : p ≤ h_q p f := by unfold h_q; omega
      omega
theorem h_hs_add (h n : Nat) : ∀ c : List h_F, h_hs (h + n) c = h_hs h c + n := by
  intro c
  induction c with
  | nil => rfl
  | cons f c ih =>
    show f.2.1.length + (b_ser f.2.2.1).length + h_hs (h + n) c + (b_ser f.2.2.2).length + 7 = f.2.1.length + (b_ser f.2.2.1).length + h_hs h c + (b_ser f.2.2.2).length + 7 + n
    rw [ih]
    omega
theorem h_hs_ge (h : Nat) : ∀ c : List h_F, h ≤ h_hs h c := by
  intro c
  induction c with
  | nil => exact Nat.le_refl _
  | cons f c ih =>
    show h ≤ f.2.1.length + (b_ser f.2.2.1).length + h_hs h c + (b_ser f.2.2.2).length + 7
    omega
theorem b_at_move {B B2 : Int → Int} {p s : Int} {x : List Int} (h : b_at B p x) (e : ∀ k, p ≤ k → k < p + x.length → B2 (k + s) = B k) : b_at B2 (p + s) x := by
  intro i v hv
  have := (List.getElem?_eq_some_iff.mp hv).1
  rw [show p + s + (i : Int) = p + i + s by omega, e _ (by omega) (by omega)]
  exact h i v hv
theorem b_at_keep {B B2 : Int → Int} {p : Int} {x : List Int} (h : b_at B p x) (e : ∀ k, p ≤ k → k < p + x.length → B2 k = B k) : b_at B2 p x := by
  have := b_at_move (B2 := B2) (s := 0) h (fun k h1 h2 => by rw [Int.add_zero]; exact e k h1 h2)
  rwa [Int.add_zero] at this
/-- the hole becomes another size -/
theorem h_Z_move {B B2 : Int → Int} {h h2 : Nat} {a old fresh : Int} (hh : (h2 : Int) = h + fresh - old) : ∀ (c : List h_F) (p : Int), h_Z B h p c → h_at p c ≤ a → a + old ≤ h_at p c + h → 0 ≤ old → (∀ k, p ≤ k → k < a → ¬ h_fl p c k → B2 k = B k) → (∀ k, a + old ≤ k → k < p + h_hs h c → B2 (k + (fresh - old)) = B k) → h_sd B2 h2 p c → h_Z B2 h2 p c := by
  intro c
  induction c with
  | nil => exact fun p _ _ _ _ _ _ _ => trivial
  | cons f c ih =>
    intro p hZ h1 h1b h0 e1 e2 hsd
    obtain ⟨z1, z2, z3, z4, z5⟩ := hZ
    have h1 : h_at (h_q p f) c ≤ a := h1
    have h1b : a + old ≤ h_at (h_q p f) c + h := h1b
    have hge := h_at_ge c (h_q p f)
    have hin := h_at_in h c (h_q p f)
    have hq : h_q p f = p + 6 + f.2.1.length + (b_ser f.2.2.1).length := rfl
    have hhs : h_hs h (f :: c) = f.2.1.length + (b_ser f.2.2.1).length + h_hs h c + (b_ser f.2.2.2).length + 7 := rfl
    have hh2 : (h_hs h2 c : Int) = h_hs h c + (fresh - old) := by
      have g1 := h_hs_ge h c
      have g2 := h_hs_add (min h h2) (h - min h h2) c
      have g3 := h_hs_add (min h h2) (h2 - min h h2) c
      rw [show min h h2 + (h - min h h2) = h by omega] at g2
      rw [show min h h2 + (h2 - min h h2) = h2 by omega] at g3
      omega
    have hnf : ∀ k, k < h_q p f → ¬ h_fl (h_q p f) c k := fun k hk g => by
      have := (h_fl_lt c _ _ g).1
      omega
    refine ⟨b_at_keep z1 fun k k1 k2 => e1 k k1 ?_ ?_, hsd.1, b_at_keep z3 fun k k1 k2 => e1 k (by omega) (by omega) ?_, ih (h_q p f) z4 h1 h1b h0 (fun k k1 k2 k3 => e1 k (by omega) k2 ?_) (fun k k1 k2 => e2 k k1 (by omega)) hsd.2, ?_⟩
    · rw [List.length_cons, List.length_append, List.length_singleton] at k2
      omega
    · rw [List.length_cons, List.length_append, List.length_singleton] at k2
      rintro (g | g)
      · omega
      · exact hnf k (by omega) g
    · rintro (g | g)
      · omega
      · exact hnf k (by omega) g
    · rintro (g | g)
      · omega
      · exact k3 g
    · rw [hh2, show h_q p f + ((h_hs h c : Int) + (fresh - old)) = h_q p f + h_hs h c + (fresh - old) by omega]
      refine b_at_move z5 fun k k1 k2 => e2 k (by omega) ?_
      rw [List.length_append, List.length_singleton] at k2
      omega
/-- the hole's own bytes are other ones -/
theorem h_Z_keep {B B2 : Int → Int} {h : Nat} : ∀ (c : List h_F) (p : Int), h_Z B h p c → (∀ k, p ≤ k → k < p + h_hs h c → ¬ (h_at p c ≤ k ∧ k < h_at p c + h) → B2 k = B k) → h_Z B2 h p c := by
  intro c
  induction c with
  | nil => exact fun p _ _ => trivial
  | cons f c ih =>
    intro p hZ e
    obtain ⟨z1, z2, z3, z4, z5⟩ := hZ
    have hge := h_at_ge c (h_q p f)
    have hin := h_at_in h c (h_q p f)
    have hq : h_q p f = p + 6 + f.2.1.length + (b_ser f.2.2.1).length := rfl
    have hhs : h_hs h (f :: c) = f.2.1.length + (b_ser f.2.2.1).length + h_hs h c + (b_ser f.2.2.2).length + 7 := rfl
    have hat : h_at p (f :: c) = h_at (h_q p f) c := rfl
    refine ⟨b_at_keep z1 fun k k1 k2 => e k k1 ?_ ?_, b_at_keep z2 fun k k1 k2 => e k (by omega) ?_ ?_, b_at_keep z3 fun k k1 k2 => e k (by omega) (by omega) (by omega), ih (h_q p f) z4 (fun k k1 k2 k3 => e k (by omega) (by omega) k3), b_at_keep z5 fun k k1 k2 => e k (by omega) ?_ ?_⟩
    · rw [List.length_cons, List.length_append, List.length_singleton] at k2
      omega
    · rw [List.length_cons, List.length_append, List.length_singleton] at k2
      omega
    · have : (b_le4 (h_sz h f c)).length = 4 := rfl
      omega
    · have : (b_le4 (h_sz h f c)).length = 4 := rfl
      omega
    · rw [List.length_append, List.length_singleton] at k2
      omega
    · omega
theorem h_at_snoc : ∀ (c : List h_F) (f : h_F) (p : Int), h_at p (c ++ [f]) = h_q (h_at p c) f := by
  intro c
  induction c with
  | nil => exact fun f p => rfl
  | cons g c ih =>
    intro f p
    exact ih f (h_q p g)
theorem h_hs_snoc (h : Nat) : ∀ (c : List h_F) (f : h_F), h_hs h (c ++ [f]) = h_hs (h_hs h [f]) c := by
  intro c
  induction c with
  | nil => exact fun f => rfl
  | cons g c ih =>
    intro f
    show g.2.1.length + (b_ser g.2.2.1).length + h_hs h (c ++ [f]) + (b_ser g.2.2.2).length + 7 = g.2.1.length + (b_ser g.2.2.1).length + h_hs (h_hs h [f]) c + (b_ser g.2.2.2).length + 7
    rw [ih]
/-- an element of the innermost one is the hole -/
theorem h_Z_snoc {B : Int → Int} {h : Nat} : ∀ (c : List h_F) (f : h_F) (p : Int), h_Z B h p (c ++ [f]) ↔ h_Z B (h_hs h [f]) p c ∧ h_Z B h (h_at p c) [f] := by
  intro c
  induction c with
  | nil => exact fun f p => ⟨fun h => ⟨trivial, h⟩, fun h => h.2⟩
  | cons g c ih =>
    intro f p
    have hz : h_sz h g (c ++ [f]) = h_sz (h_hs h [f]) g c := by
      unfold h_sz
      rw [h_hs_snoc]
    show (_ ∧ b_at B _ (b_le4 (h_sz h g (c ++ [f]))) ∧ _ ∧ h_Z B h (h_q p g) (c ++ [f]) ∧ b_at B (h_q p g + h_hs h (c ++ [f])) _) ↔ (_ ∧ b_at B _ (b_le4 (h_sz (h_hs h [f]) g c)) ∧ _ ∧ h_Z B (h_hs h [f]) (h_q p g) c ∧ b_at B (h_q p g + h_hs (h_hs h [f]) c) _) ∧ h_Z B h (h_at (h_q p g) c) [f]
    rw [hz, h_hs_snoc, ih]
    constructor
    · rintro ⟨a1, a2, a3, ⟨a4, a5⟩, a6⟩
      exact ⟨⟨a1, a2, a3, a4, a6⟩, a5⟩
    · rintro ⟨⟨a1, a2, a3, a4, a6⟩, a5⟩
      exact ⟨a1, a2, a3, ⟨a4, a5⟩, a6⟩
/-- one document with a hole: what is in it -/
theorem h_Z_one {B : Int → Int} {f : h_F} {p : Int} {mid : List b_E} : (h_Z B (b_ser mid).length p [f] ∧ b_at B (h_q p f) (b_ser mid)) ↔ b_at B p (b_el f.1 f.2.1 (b_doc (f.2.2.1 ++ mid ++ f.2.2.2))) := by
  have hlen : (b_ser (f.2.2.1 ++ mid ++ f.2.2.2)).length = (b_ser f.2.2.1).length + (b_ser mid).length + (b_ser f.2.2.2).length := by
    rw [b_ser_app, b_ser_app, List.length_append, List.length_append]
  have hsz : h_sz (b_ser mid).length f [] = (b_ser (f.2.2.1 ++ mid ++ f.2.2.2)).length + 5 := by
    rw [hlen]
    rfl
  have he : b_el f.1 f.2.1 (b_doc (f.2.2.1 ++ mid ++ f.2.2.2)) = (f.1 :: (f.2.1 ++ [0])) ++ (b_le4 ((b_ser (f.2.2.1 ++ mid ++ f.2.2.2)).length + 5) ++ (b_ser f.2.2.1 ++ (b_ser mid ++ (b_ser f.2.2.2 ++ [0])))) := by
    unfold b_el b_doc
    rw [b_ser_app, b_ser_app]
    simp
  have hl4 : ∀ n : Int, ((b_le4 n).length : Int) = 4 := fun _ => rfl
  have hk : (((f.1 :: (f.2.1 ++ [0]) : List Int)).length : Int) = f.2.1.length + 2 := by
    rw [List.length_cons, List.length_append, List.length_singleton]
    omega
  rw [he, b_app, b_app, b_app, b_app, hk, hl4]
  show ((_ ∧ b_at B (p + 2 + f.2.1.length) (b_le4 ((h_sz (b_ser mid).length f [] : Nat) : Int)) ∧ b_at B (p + 6 + f.2.1.length) (b_ser f.2.2.1) ∧ True ∧ b_at B (h_q p f + ((b_ser mid).length : Nat)) (b_ser f.2.2.2 ++ [0])) ∧ b_at B (h_q p f) (b_ser mid)) ↔ _
  rw [hsz]
  unfold h_q
  rw [show p + ((f.2.1.length : Int) + 2) = p + 2 + f.2.1.length by omega, show p + 2 + (f.2.1.length : Int) + 4 = p + 6 + f.2.1.length by omega, show (((b_ser (f.2.2.1 ++ mid ++ f.2.2.2)).length + 5 : Nat) : Int) = ((b_ser (f.2.2.1 ++ mid ++ f.2.2.2)).length : Int) + 5 by omega]
  constructor
  · rintro ⟨⟨a1, a2, a3, -, a5⟩, a6⟩
    exact ⟨a1, a2, a3, a6, a5⟩
  · rintro ⟨a1, a2, a3, a6, a5⟩
    exact ⟨⟨a1, a2, a3, trivial, a5⟩, a6⟩
theorem h_hs_one {f : h_F} {mid : List b_E} : h_hs (b_ser mid).length [f] = (b_el f.1 f.2.1 (b_doc (f.2.2.1 ++ mid ++ f.2.2.2))).length := by
  rw [b_el_len, b_doc_len, b_ser_app, b_ser_app, List.length_append, List.length_append]
  show f.2.1.length + (b_ser f.2.2.1).length + (b_ser mid).length + (b_ser f.2.2.2).length + 7 = _
  omega
/-- into an element of the hole, and out of it -/
theorem h_in {B : Int → Int} {c : List h_F} {f : h_F} {p : Int} {mid : List b_E} : (h_Z B (b_el f.1 f.2.1 (b_doc (f.2.2.1 ++ mid ++ f.2.2.2))).length p c ∧ b_at B (h_at p c) (b_el f.1 f.2.1 (b_doc (f.2.2.1 ++ mid ++ f.2.2.2)))) ↔ (h_Z B (b_ser mid).length p (c ++ [f]) ∧ b_at B (h_at p (c ++ [f])) (b_ser mid)) := by
  rw [h_Z_snoc, h_at_snoc, ← h_hs_one, ← h_Z_one]
  constructor
  · rintro ⟨a1, a2, a3⟩
    exact ⟨⟨a1, a2⟩, a3⟩
  · rintro ⟨⟨a1, a2⟩, a3⟩
    exact ⟨a1, a2, a3⟩
/-! what a change says, over elements -/
def X_rep (s : List Int) (e2 : b_E) : List b_E → List b_E
  | [] => []
  | e :: es => if e.2.1 = s then e2 :: es else e :: X_rep s e2 es
def X_del (s : List Int) : List b_E → List b_E
  | [] => []
  | e :: es => if e.2.1 = s then es else e :: X_del s es
def X_num : Nat → List b_E → List b_E
  | _, [] => []
  | i, e :: es => (e.1, b_dg i, e.2.2) :: X_num (i + 1) es
def X_small (e p : b_E) : Prop := e.1 = 16 ∧ p.1 = 16 ∧ g_lc (v_num e.1 e.2.2 + v_num p.1 p.2.2) (Int64.ofInt ((v_num e.1 e.2.2 + v_num p.1 p.2.2).toInt32.toInt)) = 0
noncomputable def X_inc (e p : b_E) : Int × b_E :=
  if e.1 = 16 ∨ e.1 = 18 then
    (if g_lc ((v_num e.1 e.2.2 ^^^ (v_num e.1 e.2.2 + v_num p.1 p.2.2)) &&& (v_num p.1 p.2.2 ^^^ (v_num e.1 e.2.2 + v_num p.1 p.2.2))) 0 < 0 then (8, e)
    else if e.1 = 16 ∧ p.1 = 16 ∧ g_lc (v_num e.1 e.2.2 + v_num p.1 p.2.2) (Int64.ofInt ((v_num e.1 e.2.2 + v_num p.1 p.2.2).toInt32.toInt)) = 0 then (0, (16, e.2.1, b_le4 (v_num e.1 e.2.2 + v_num p.1 p.2.2).toInt32.toInt))
    else (0, (18, e.2.1, b_le8 (v_num e.1 e.2.2 + v_num p.1 p.2.2))))
  else (7, e)
noncomputable def X_last (op : Int) (p : b_E) (s : List Int) : Option b_E → Int × b_E
  | none => (0, if op = 4 ∨ op = 6 then (4, s, b_doc [(p.1, b_dg 0, p.2.2)]) else (p.1, s, p.2.2))
  | some e => if op = 1 then (0, (p.1, e.2.1, p.2.2)) else if op = 3 then X_inc e p else if e.1 = 4 then
      (if (op == 6 && (b_ch e.2.2).any fun y => F_eq y p) = true then (0, e) else (0, (4, e.2.1, b_doc (b_ch e.2.2 ++ [(p.1, b_dg (b_ch e.2.2).length, p.2.2)]))))
    else (7, e)
/-- $set, $inc, $push, $addToSet: (fault, the elements then) -/
noncomputable def X_make (op : Int) (p : b_E) : Bool → List b_E → List (List Int) → Int × List b_E
  | _, es, [] => (0, es)
  | row, es, s :: r => match L_fn s es with
    | none => if row = true ∧ s ≠ b_dg es.length then (6, es) else match r with
      | [] => (0, es ++ [(X_last op p s none).2])
      | _ :: _ => ((X_make op p false [] r).1, es ++ [(3, s, b_doc (X_make op p false [] r).2)])
    | some e => match r with
      | [] => ((X_last op p s (some e)).1, X_rep s (X_last op p s (some e)).2 es)
      | _ :: _ => if e.1 = 3 ∨ e.1 = 4 then ((X_make op p (e.1 == 4) (b_ch e.2.2) r).1, X_rep s (e.1, e.2.1, b_doc (X_make op p (e.1 == 4) (b_ch e.2.2) r).2) es) else (6, es)
/-- $unset, $pull -/
noncomputable def X_take (op : Int) (p : b_E) : Bool → List b_E → List (List Int) → Int × List b_E
  | _, es, [] => (0, es)
  | row, es, s :: r => match L_fn s es with
    | none => (0, es)
    | some e => match r with
      | [] => if op = 2 then (0, if row = true then X_rep s (10, e.2.1, []) es else X_del s es) else if e.1 = 4 then (0, X_rep s (4, e.2.1, b_doc (X_num 0 ((b_ch e.2.2).filter fun y => !F_eq y p))) es) else (7, es)
      | _ :: _ => if e.1 = 3 ∨ e.1 = 4 then ((X_take op p (e.1 == 4) (b_ch e.2.2) r).1, X_rep s (e.1, e.2.1, b_doc (X_take op p (e.1 == 4) (b_ch e.2.2) r).2) es) else (0, es)
def X_op (nm : List Int) : Int := if nm = b_tx 32 then 1 else if nm = b_tx 33 then 2 else if nm = b_tx 34 then 3 else if nm = b_tx 35 then 4 else if nm = b_tx 36 then 5 else if nm = b_tx 37 then 6 else 0
noncomputable def X_path (op : Int) (p : b_E) (es : List b_E) : Int × List b_E := if op = 2 ∨ op = 5 then X_take op p false es (p_sp p.2.1) else X_make op p false es (p_sp p.2.1)
