/-! READING A REQUEST: what is told, over bytes alone. A triple: the fault (0: none), its place, the place behind -/
def r_kind (k : Int) : Prop := k = 16 ∨ k = 18 ∨ k = 8 ∨ k = 10 ∨ k = 2 ∨ k = 3 ∨ k = 4
noncomputable def r_txt (F : Int → Int) (v left : Int) : Int × Int × Int :=
  if left < 4 then (1, v, 0) else if b_w4 F v = 0 then (6, v, 0)
  else if b_w4 F v < 0 ∨ left - 4 < b_w4 F v then (1, v, 0)
  else if F (v + 3 + b_w4 F v) = 0 then
    (if u_bad F (v + 3 + b_w4 F v) (b_w4 F v - 1).toNat (v + 4) = -1 then (0, 0, v + 4 + b_w4 F v) else (4, u_bad F (v + 3 + b_w4 F v) (b_w4 F v - 1).toNat (v + 4), 0))
  else (6, v + 3 + b_w4 F v, 0)
noncomputable def r_val (F : Int → Int) (rd : Int → Int → Bool → Int × Int × Int) (last k v : Int) : Int × Int × Int :=
  if k = 16 then (if last - v < 4 then (1, v, 0) else (0, 0, v + 4))
  else if k = 18 then (if last - v < 8 then (1, v, 0) else (0, 0, v + 8))
  else if k = 10 then (0, 0, v)
  else if k = 8 then (if last - v < 1 then (1, v, 0) else if F v = 0 ∨ F v = 1 then (0, 0, v + 1) else (5, v, 0))
  else if k = 2 then r_txt F v (last - v)
  else rd v last (k == 4)
def r_z (F : Int → Int) (last p : Int) : Int := u_z F (last - p - 1).toNat (p + 1)
def r_nm (F : Int → Int) (last p : Int) : List Int := b_sub F (r_z F last p - p - 1).toNat (p + 1)
noncomputable def r_bad (F : Int → Int) (last p : Int) : Int := u_bad F (r_z F last p) (r_z F last p - (p + 1)).toNat (p + 1)
def r_wrong (F : Int → Int) (row : Bool) (last : Int) (es : List b_E) (p : Int) : Bool := bif row then !decide (r_nm F last p = b_dg es.length) else u_has es (r_nm F last p)
noncomputable def r_elm (F : Int → Int) (rv : Int → Int → Int × Int × Int) (row : Bool) (last : Int) (es : List b_E) (p : Int) : Int × Int × Int :=
  if F p = 0 then (2, p, 0) else @ite _ (r_kind (F p)) (Classical.propDecidable _)
    (if r_z F last p < last then (if r_bad F last p = -1 then (if r_wrong F row last es p = true then (7, p + 1, 0) else rv (F p) (r_z F last p + 1)) else (4, r_bad F last p, 0)) else (1, p + 1, 0)) (3, p, 0)
noncomputable def r_end (F : Int → Int) (last : Int) : Int × Int × Int := if F last = 0 then (0, 0, last + 1) else (2, last, 0)
noncomputable def r_E (F : Int → Int) (rv : Int → Int → Int × Int × Int) (last : Int) (p : Int) : b_E := (F p, r_nm F last p, b_sub F ((rv (F p) (r_z F last p + 1)).2.2 - (r_z F last p + 1)).toNat (r_z F last p + 1))
noncomputable def r_els (F : Int → Int) (rv : Int → Int → Int × Int × Int) (row : Bool) (last : Int) : Nat → List b_E → Int → Int × Int × Int
  | 0, _, _ => r_end F last
  | f + 1, es, p => if p < last then (if (r_elm F rv row last es p).1 = 0 then r_els F rv row last f (es ++ [r_E F rv last p]) (rv (F p) (r_z F last p + 1)).2.2 else r_elm F rv row last es p) else r_end F last
noncomputable def r_doc (F : Int → Int) : Nat → Int → Int → Bool → Int × Int × Int
  | 0, c, limit, _ => if limit - c < 4 then (1, c, 0) else if 0 ≤ b_w4 F c ∧ b_w4 F c < 5 then (2, c, 0) else if b_w4 F c < 0 ∨ limit - c < b_w4 F c then (1, c, 0) else (8, c, 0)
  | D + 1, c, limit, row => if limit - c < 4 then (1, c, 0) else if 0 ≤ b_w4 F c ∧ (b_w4 F c < 5 ∨ D = 15 ∧ b_w4 F c < limit - c) then (2, c, 0) else if b_w4 F c < 0 ∨ limit - c < b_w4 F c then (1, c, 0)
    else r_els F (r_val F (fun v last row => r_doc F D v last row) (c + b_w4 F c - 1)) row (c + b_w4 F c - 1) (b_w4 F c).toNat [] (c + 4)
/-- what was read stands -/
def r_good (F : Int → Int) (D : Nat) (c limit : Int) (k : Int) (R : Int × Int × Int) : Prop := R.1 = 0 → c ≤ R.2.2 ∧ R.2.2 ≤ limit ∧ b_gv D k (b_sub F (R.2.2 - c).toNat c)
section READ
variable {F : Int → Int} (hB : ∀ q, -128 ≤ F q ∧ F q ≤ 127)
theorem b_sub_app (B : Int → Int) : ∀ (l1 l2 : Nat) (p : Int), b_sub B (l1 + l2) p = b_sub B l1 p ++ b_sub B l2 (p + l1) := by
  intro l1
  induction l1 with
  | zero =>
    intro l2 p
    rw [Nat.zero_add, show p + ((0 : Nat) : Int) = p by omega]
    rfl
  | succ l1 ih =>
    intro l2 p
    rw [Nat.succ_add]
    show B p :: b_sub B (l1 + l2) (p + 1) = B p :: (b_sub B l1 (p + 1) ++ b_sub B l2 (p + ((l1 + 1 : Nat) : Int)))
    rw [ih, show p + ((l1 + 1 : Nat) : Int) = p + 1 + l1 by omega]
theorem b_lf_gv {D : Nat} {k : Int} {vb : List Int} (h : b_lf k vb) : b_gv D k vb := by
  cases D with
  | zero => exact h
  | succ D => exact Or.inl h
theorem b_sub_of {B : Int → Int} {x : List Int} {p : Int} {l : Nat} (h : b_at B p x) (hl : x.length = l) : b_sub B l p = x := by
  subst hl
  exact b_sub_eq h
theorem r_txt_good {D : Nat} {v left limit : Int} (hB : ∀ q, -128 ≤ F q ∧ F q ≤ 127) (hl : left = limit - v) (h9 : left < 100000) : r_good F D v limit 2 (r_txt F v left) := by
  intro h
  unfold r_txt at h ⊢
  by_cases g1 : left < 4
  · rw [if_pos g1] at h
    exact absurd h (by simp)
  rw [if_neg g1] at h ⊢
  by_cases g2 : b_w4 F v = 0
  · rw [if_pos g2] at h
    exact absurd h (by simp)
  rw [if_neg g2] at h ⊢
  by_cases g3 : b_w4 F v < 0 ∨ left - 4 < b_w4 F v
  · rw [if_pos g3] at h
    exact absurd h (by simp)
  rw [if_neg g3] at h ⊢
  by_cases g4 : F (v + 3 + b_w4 F v) = 0
  · rw [if_pos g4] at h ⊢
    by_cases g5 : u_bad F (v + 3 + b_w4 F v) (b_w4 F v - 1).toNat (v + 4) = -1
    · rw [if_pos g5]
      refine ⟨by simp only; omega, by simp only; omega, b_lf_gv (Or.inr (Or.inr (Or.inr (Or.inr ⟨rfl, b_sub F (b_w4 F v - 1).toNat (v + 4), ?_, ?_⟩))))⟩
      · simp only
        refine b_sub_of ?_ ?_
        · refine b_app.mpr ⟨?_, b_app.mpr ⟨b_sub_at F _ _, ?_⟩⟩
          · rw [b_sub_len, show (((b_w4 F v - 1).toNat : Nat) : Int) + 1 = b_w4 F v by omega]
            exact b_w4_inv hB (by omega) (by omega)
          · rw [b_sub_len]
            refine b_cons.mpr ⟨?_, b_nil _ _⟩
            show F (v + 4 + _) = 0
            rw [show v + 4 + (((b_w4 F v - 1).toNat : Nat) : Int) = v + 3 + b_w4 F v by omega]
            exact g4
        · rw [List.length_append, List.length_append, b_sub_len, List.length_singleton, show (b_le4 _).length = 4 from rfl]
          omega
      · rw [b_sub_len]
        omega
    · rw [if_neg g5] at h
      exact absurd h (by simp)
  · rw [if_neg g4] at h
    exact absurd h (by simp)
theorem r_val_good {D : Nat} {rd : Int → Int → Bool → Int × Int × Int} {last k v : Int} (hB : ∀ q, -128 ≤ F q ∧ F q ≤ 127) (h9 : last - v < 100000) (hv : v ≤ last) (hk : r_kind k) (hrd : ∀ row, r_good F D v last (bif row then 4 else 3) (rd v last row)) : r_good F D v last k (r_val F rd last k v) := by
  have hl : ∀ (c : Int) (l : Nat), (v + c - v).toNat = c.toNat := fun c l => by rw [show v + c - v = c by omega]
  unfold r_val
  by_cases k1 : k = 16
  · rw [if_pos k1]
    intro h
    by_cases g : last - v < 4
    · rw [if_pos g] at h
      exact absurd h (by simp)
    · rw [if_neg g]
      refine ⟨by simp only; omega, by simp only; omega, b_lf_gv (Or.inl ⟨k1, ?_⟩)⟩
      rw [b_sub_len]
      simp only
      omega
  rw [if_neg k1]
  by_cases k2 : k = 18
  · rw [if_pos k2]
    intro h
    by_cases g : last - v < 8
    · rw [if_pos g] at h
      exact absurd h (by simp)
    · rw [if_neg g]
      refine ⟨by simp only; omega, by simp only; omega, b_lf_gv (Or.inr (Or.inl ⟨k2, ?_⟩))⟩
      rw [b_sub_len]
      simp only
      omega
  rw [if_neg k2]
  by_cases k3 : k = 10
  · rw [if_pos k3]
    intro h
    refine ⟨by simp only; omega, hv, b_lf_gv (Or.inr (Or.inr (Or.inr (Or.inl ⟨k3, ?_⟩))))⟩
    simp only
    rw [show v - v = 0 by omega]
    rfl
  rw [if_neg k3]
  by_cases k4 : k = 8
  · rw [if_pos k4]
    intro h
    by_cases g : last - v < 1
    · rw [if_pos g] at h
      exact absurd h (by simp)
    rw [if_neg g] at h ⊢
    by_cases g2 : F v = 0 ∨ F v = 1
    · rw [if_pos g2]
      refine ⟨by simp only; omega, by simp only; omega, b_lf_gv (Or.inr (Or.inr (Or.inl ⟨k4, ?_⟩)))⟩
      simp only
      rw [show v + 1 - v = 1 by omega]
      show [F v] = [0] ∨ [F v] = [1]
      rcases g2 with g2 | g2
      · exact Or.inl (by rw [g2])
      · exact Or.inr (by rw [g2])
    · rw [if_neg g2] at h
      exact absurd h (by simp)
  rw [if_neg k4]
  by_cases k5 : k = 2
  · rw [if_pos k5]
    subst k5
    exact r_txt_good hB rfl h9
  rw [if_neg k5]
  by_cases k6 : k = 4
  · subst k6
    exact hrd true
  · have k7 : k = 3 := by
      unfold r_kind at hk
      omega
    subst k7
    exact hrd false
theorem r_z_R {last p : Int} (h : p < last) : p + 1 ≤ r_z F last p ∧ r_z F last p ≤ last ∧ (∀ q, p + 1 ≤ q → q < r_z F last p → F q ≠ 0) ∧ (r_z F last p < last → F (r_z F last p) = 0) := by
  obtain ⟨h1, h2, h3, h4⟩ := u_z_R F (last - p - 1).toNat (p + 1)
  unfold r_z
  exact ⟨h1, by omega, h3, fun g => h4 (by omega)⟩
theorem r_elm_good {D : Nat} {rv : Int → Int → Int × Int × Int} {row : Bool} {last p : Int} {es : List b_E} (hp : p < last) (hrv : ∀ k v, r_kind k → v ≤ last → p < v → r_good F D v last k (rv k v)) (h : (r_elm F rv row last es p).1 = 0) :
    r_elm F rv row last es p = rv (F p) (r_z F last p + 1) ∧ r_z F last p < last ∧ b_at F p (b_el (r_E F rv last p).1 (r_E F rv last p).2.1 (r_E F rv last p).2.2) ∧ b_nz (r_E F rv last p).2.1 ∧ b_gv D (r_E F rv last p).1 (r_E F rv last p).2.2 ∧ (rv (F p) (r_z F last p + 1)).2.2 = p + (b_el (r_E F rv last p).1 (r_E F rv last p).2.1 (r_E F rv last p).2.2).length ∧ (rv (F p) (r_z F last p + 1)).2.2 ≤ last ∧ (row = true → (r_E F rv last p).2.1 = b_dg es.length) := by
  obtain ⟨z1, z2, z3, z4⟩ := r_z_R (F := F) hp
  unfold r_elm at h ⊢
  by_cases g1 : F p = 0
  · rw [if_pos g1] at h
    exact absurd h (by simp)
  rw [if_neg g1] at h ⊢
  by_cases g2 : r_kind (F p)
  · rw [if_pos g2] at h ⊢
    by_cases g3 : r_z F last p < last
    · rw [if_pos g3] at h ⊢
      by_cases g4 : r_bad F last p = -1
      · rw [if_pos g4] at h ⊢
        by_cases g5 : r_wrong F row last es p = true
        · rw [if_pos g5] at h
          exact absurd h (by simp)
        · rw [if_neg g5] at h ⊢
          obtain ⟨r1, r2, r3⟩ := hrv _ _ g2 (by omega) (by omega) h
          have hn : (r_nm F last p).length = (r_z F last p - p - 1).toNat := b_sub_len _ _ _
          refine ⟨rfl, g3, ?_, b_sub_nz fun q q1 q2 => z3 q q1 (by omega), r3, ?_, r2, fun e => ?_⟩
          · unfold r_E
            refine b_cons.mpr ⟨rfl, b_app.mpr ⟨b_sub_at _ _ _, b_cons.mpr ⟨?_, ?_⟩⟩⟩
            · show F (p + 1 + ((r_nm F last p).length : Nat)) = 0
              rw [hn, show p + 1 + (((r_z F last p - p - 1).toNat : Nat) : Int) = r_z F last p by omega]
              exact z4 g3
            · show b_at F (p + 1 + ((r_nm F last p).length : Nat) + 1) _
              rw [hn, show p + 1 + (((r_z F last p - p - 1).toNat : Nat) : Int) + 1 = r_z F last p + 1 by omega]
              exact b_sub_at _ _ _
          · rw [b_el_len]
            unfold r_E
            simp only
            rw [hn, b_sub_len]
            omega
          · subst e
            unfold r_wrong at g5
            rw [cond_true] at g5
            show r_nm F last p = _
            simpa using g5
      · rw [if_neg g4] at h
        simp only at h
        omega
    · rw [if_neg g3] at h
      exact absurd h (by simp)
  · rw [if_neg g2] at h
    exact absurd h (by simp)
theorem r_els_good {D : Nat} {rv : Int → Int → Int × Int × Int} {row : Bool} {last c : Int} (hrv : ∀ k v, r_kind k → v ≤ last → c < v → r_good F D v last k (rv k v)) : ∀ (f : Nat) (es : List b_E) (p : Int), b_at F (c + 4) (b_ser es) → p = c + 4 + (b_ser es).length → p ≤ last → last - p ≤ f → (∀ e ∈ es, b_nz e.2.1 ∧ b_gv D e.1 e.2.2) → (row = true → ∀ (i : Nat) (e : b_E), es[i]? = some e → e.2.1 = b_dg i) → (r_els F rv row last f es p).1 = 0 →
    r_els F rv row last f es p = (0, 0, last + 1) ∧ ∃ fs : List b_E, b_at F (c + 4) (b_ser fs) ∧ last = c + 4 + (b_ser fs).length ∧ F last = 0 ∧ (∀ e ∈ fs, b_nz e.2.1 ∧ b_gv D e.1 e.2.2) ∧ (row = true → ∀ (i : Nat) (e : b_E), fs[i]? = some e → e.2.1 = b_dg i) := by
  have hend : ∀ (es : List b_E) (p : Int), b_at F (c + 4) (b_ser es) → p = c + 4 + (b_ser es).length → p ≤ last → ¬ p < last → (∀ e ∈ es, b_nz e.2.1 ∧ b_gv D e.1 e.2.2) → (row = true → ∀ (i : Nat) (e : b_E), es[i]? = some e → e.2.1 = b_dg i) → (r_end F last).1 = 0 → r_end F last = (0, 0, last + 1) ∧ ∃ fs : List b_E, b_at F (c + 4) (b_ser fs) ∧ last = c + 4 + (b_ser fs).length ∧ F last = 0 ∧ (∀ e ∈ fs, b_nz e.2.1 ∧ b_gv D e.1 e.2.2) ∧ (row = true → ∀ (i : Nat) (e : b_E), fs[i]? = some e → e.2.1 = b_dg i) := by
    intro es p h1 h2 h3 h4 h5 h6 h
    unfold r_end at h ⊢
    by_cases g : F last = 0
    · rw [if_pos g]
      exact ⟨rfl, es, h1, by omega, g, h5, h6⟩
    · rw [if_neg g] at h
      exact absurd h (by simp)
  intro f
  induction f with
  | zero =>
    intro es p h1 h2 h3 hf h5 h6 h
    exact hend es p h1 h2 h3 (by omega) h5 h6 h
  | succ f ih =>
    intro es p h1 h2 h3 hf h5 h6 h
    unfold r_els at h ⊢
    by_cases g : p < last
    · rw [if_pos g] at h ⊢
      by_cases g2 : (r_elm F rv row last es p).1 = 0
      · rw [if_pos g2] at h ⊢
        obtain ⟨e1, e2, e3, e4, e5, e6, e7, e8⟩ := r_elm_good g (fun k v a1 a2 a3 => hrv k v a1 a2 (by omega)) g2
        have hlen := b_el_len (r_E F rv last p).1 (r_E F rv last p).2.1 (r_E F rv last p).2.2
        have hs : b_ser (es ++ [r_E F rv last p]) = b_ser es ++ b_el (r_E F rv last p).1 (r_E F rv last p).2.1 (r_E F rv last p).2.2 := by
          rw [b_ser_app]
          show _ ++ (b_el _ _ _ ++ []) = _
          rw [List.append_nil]
        refine ih _ _ ?_ ?_ e7 (by omega) ?_ ?_ h
        · rw [hs]
          refine b_app.mpr ⟨h1, ?_⟩
          rwa [← h2]
        · rw [hs, List.length_append]
          omega
        · intro e he
          rcases List.mem_append.mp he with he | he
          · exact h5 e he
          · rw [List.mem_singleton.mp he]
            exact ⟨e4, e5⟩
        · intro hr i e he
          by_cases hi : i < es.length
          · rw [List.getElem?_append_left hi] at he
            exact h6 hr i e he
          · rw [List.getElem?_append_right (by omega)] at he
            have : i - es.length = 0 := by
              obtain ⟨hh, -⟩ := List.getElem?_eq_some_iff.mp he
              rw [List.length_singleton] at hh
              omega
            rw [this] at he
            have hi2 : i = es.length := by omega
            subst hi2
            simp only [List.getElem?_cons_zero, Option.some.injEq] at he
            rw [← he]
            exact e8 hr
      · rw [if_neg g2] at h
        exact absurd h g2
    · rw [if_neg g] at h ⊢
      exact hend es p h1 h2 h3 g h5 h6 h
theorem r_doc_good (hB : ∀ q, -128 ≤ F q ∧ F q ≤ 127) : ∀ (D : Nat) (c limit : Int) (row : Bool), limit - c < 100000 → r_good F D c limit (bif row then 4 else 3) (r_doc F D c limit row) := by
  intro D
  induction D with
  | zero =>
    intro c limit row h9 h
    unfold r_doc at h
    refine absurd h ?_
    repeat' split
    all_goals simp
  | succ D ih =>
    intro c limit row h9 h
    unfold r_doc at h ⊢
    by_cases g1 : limit - c < 4
    · rw [if_pos g1] at h
      exact absurd h (by simp)
    rw [if_neg g1] at h ⊢
    by_cases g2 : 0 ≤ b_w4 F c ∧ (b_w4 F c < 5 ∨ D = 15 ∧ b_w4 F c < limit - c)
    · rw [if_pos g2] at h
      exact absurd h (by simp)
    rw [if_neg g2] at h ⊢
    by_cases g3 : b_w4 F c < 0 ∨ limit - c < b_w4 F c
    · rw [if_pos g3] at h
      exact absurd h (by simp)
    rw [if_neg g3] at h ⊢
    obtain ⟨e1, fs, e2, e3, e4, e5, e6⟩ := r_els_good (D := D) (c := c) (fun k v a1 a2 a3 => r_val_good hB (by omega) a2 a1 (fun row => ih v (c + b_w4 F c - 1) row (by omega))) (b_w4 F c).toNat [] (c + 4) (b_nil _ _) (by rw [show b_ser [] = [] from rfl, List.length_nil]; omega) (by omega) (by omega) (fun e he => absurd he (by simp)) (fun _ i e he => absurd he (by simp)) h
    rw [e1]
    refine ⟨by simp only; omega, by simp only; omega, ?_⟩
    simp only
    have hd : b_sub F (c + b_w4 F c - 1 + 1 - c).toNat c = b_doc fs := by
      refine b_sub_of ?_ ?_
      · refine b_app.mpr ⟨?_, b_app.mpr ⟨by rwa [show c + ((b_le4 _).length : Nat) = c + 4 from rfl], b_cons.mpr ⟨?_, b_nil _ _⟩⟩⟩
        · have := b_w4_inv hB (p := c) (by omega) (by omega)
          rwa [show b_w4 F c = ((b_ser fs).length : Int) + 5 by omega] at this
        · show F (c + 4 + (b_ser fs).length) = 0
          rwa [← e3]
      · rw [b_doc_len]
        omega
    rw [hd]
    refine Or.inr ⟨by cases row <;> simp, fs, rfl, by omega, e5, fun hk => e6 ?_⟩
    cases row
    · exact absurd hk (by decide)
    · rfl
end READ
