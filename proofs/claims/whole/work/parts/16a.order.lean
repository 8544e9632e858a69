/-! THE ORDER OF VALUES is an order -/
def v_T {α : Type} (c : α → α → Int) : Prop := (∀ x y, c x y = -1 ∨ c x y = 0 ∨ c x y = 1) ∧ (∀ x y, c y x = - c x y) ∧ ∀ x y z, c x y ≤ 0 → c y z ≤ 0 → c x z ≤ 0
section VT
variable {α β ι : Type} {c c1 : α → α → Int} {c2 : ι → α → α → Int}
theorem v_T.r (h : v_T c) : ∀ x y, c x y = -1 ∨ c x y = 0 ∨ c x y = 1 := h.1
theorem v_T.s (h : v_T c) : ∀ x y, c y x = - c x y := h.2.1
theorem v_T.t (h : v_T c) : ∀ x y z, c x y ≤ 0 → c y z ≤ 0 → c x z ≤ 0 := h.2.2
theorem v_T.rf (h : v_T c) (x : α) : c x x = 0 := by
  have := h.s x x
  omega
theorem v_T.z (h : v_T c) {x y w : α} (h1 : c x y ≤ 0) (h2 : c y w ≤ 0) (h3 : c x w = 0) : c x y = 0 ∧ c y w = 0 := by
  have a1 := h.s x w
  have a2 := h.t y w x h2 (by omega)
  have a3 := h.t w x y (by omega) h1
  have a4 := h.s x y
  have a5 := h.s y w
  omega
theorem v_T.e0 (h : v_T c) {x y : α} (h1 : c x y = 0) : c y x = 0 := by
  have := h.s x y
  omega
/-- what is as good as another -/
theorem v_T.cg (h : v_T c) {x x2 y y2 : α} (h1 : c x x2 = 0) (h2 : c y y2 = 0) : c x y = c x2 y2 := by
  have hle : ∀ {x x2 y y2 : α}, c x x2 = 0 → c y y2 = 0 → c x y ≤ 0 → c x2 y2 ≤ 0 := fun {x x2 y y2} h1 h2 h3 => h.t _ y _ (h.t _ x _ (by rw [h.e0 h1]; omega) h3) (by omega)
  have hz : ∀ {x x2 y y2 : α}, c x x2 = 0 → c y y2 = 0 → c x y = 0 → c x2 y2 = 0 := fun {x x2 y y2} h1 h2 h3 => by
    have a1 := hle h1 h2 (by omega)
    have a2 := hle h2 h1 (by rw [h.e0 h3]; omega)
    have a3 := h.s x2 y2
    omega
  have b1 : c x y ≤ 0 → c x2 y2 ≤ 0 := hle h1 h2
  have b2 : c x2 y2 ≤ 0 → c x y ≤ 0 := hle (h.e0 h1) (h.e0 h2)
  have b3 : c x y = 0 → c x2 y2 = 0 := hz h1 h2
  have b4 : c x2 y2 = 0 → c x y = 0 := hz (h.e0 h1) (h.e0 h2)
  rcases h.r x y with g | g | g <;> rcases h.r x2 y2 with k | k | k <;> omega
theorem v_T.pb (h : v_T c) (f : β → α) : v_T (fun x y => c (f x) (f y)) := ⟨fun _ _ => h.r _ _, fun _ _ => h.s _ _, fun _ _ _ => h.t _ _ _⟩
theorem v_T.zero : v_T (fun (_ _ : α) => (0 : Int)) := ⟨fun _ _ => Or.inr (Or.inl rfl), fun _ _ => rfl, fun _ _ _ _ _ => Int.le_refl _⟩
theorem v_T.tl (h1 : v_T c1) (g : α → ι) (hg : ∀ x y, c1 x y = 0 → g x = g y) (h2 : ∀ i, v_T (c2 i)) : v_T (fun x y => if c1 x y = 0 then c2 (g x) x y else c1 x y) := by
  refine ⟨fun x y => ?_, fun x y => ?_, fun x y w => ?_⟩
  · show (if c1 x y = 0 then c2 (g x) x y else c1 x y) = -1 ∨ (if c1 x y = 0 then c2 (g x) x y else c1 x y) = 0 ∨ (if c1 x y = 0 then c2 (g x) x y else c1 x y) = 1
    split
    · exact (h2 (g x)).r x y
    · exact h1.r x y
  · show (if c1 y x = 0 then c2 (g y) y x else c1 y x) = - (if c1 x y = 0 then c2 (g x) x y else c1 x y)
    by_cases e : c1 x y = 0
    · rw [if_pos (h1.e0 e), if_pos e, hg x y e]
      exact (h2 (g y)).s x y
    · rw [if_neg (fun z => e (h1.e0 z)), if_neg e]
      exact h1.s x y
  · show (if c1 x y = 0 then c2 (g x) x y else c1 x y) ≤ 0 → (if c1 y w = 0 then c2 (g y) y w else c1 y w) ≤ 0 → (if c1 x w = 0 then c2 (g x) x w else c1 x w) ≤ 0
    intro k1 k2
    have l1 : c1 x y ≤ 0 := by
      by_cases e : c1 x y = 0
      · omega
      · rwa [if_neg e] at k1
    have l2 : c1 y w ≤ 0 := by
      by_cases e : c1 y w = 0
      · omega
      · rwa [if_neg e] at k2
    have l3 := h1.t x y w l1 l2
    by_cases e : c1 x w = 0
    · obtain ⟨e1, e2⟩ := h1.z l1 l2 e
      rw [if_pos e]
      rw [if_pos e1] at k1
      rw [if_pos e2, ← hg x y e1] at k2
      exact (h2 (g x)).t x y w k1 k2
    · rw [if_neg e]
      exact l3
theorem v_T.th {c2 : α → α → Int} (h1 : v_T c1) (h2 : v_T c2) : v_T (fun x y => if c1 x y = 0 then c2 x y else c1 x y) := h1.tl (ι := Unit) (c2 := fun _ => c2) (fun _ => ()) (fun _ _ _ => rfl) fun _ => h2
end VT
def v_lex {α : Type} (c : α → α → Int) : List α → List α → Int
  | [], [] => 0
  | [], _ :: _ => -1
  | _ :: _, [] => 1
  | x :: xs, y :: ys => if c x y = 0 then v_lex c xs ys else c x y
theorem v_T.lex {α : Type} {c : α → α → Int} (h : v_T c) : v_T (v_lex c) := by
  refine ⟨fun x => ?_, fun x => ?_, fun x => ?_⟩
  · induction x with
    | nil =>
      intro y
      cases y
      · exact Or.inr (Or.inl rfl)
      · exact Or.inl rfl
    | cons a x ih =>
      intro y
      cases y with
      | nil => exact Or.inr (Or.inr rfl)
      | cons b y =>
        show (if c a b = 0 then v_lex c x y else c a b) = -1 ∨ (if c a b = 0 then v_lex c x y else c a b) = 0 ∨ (if c a b = 0 then v_lex c x y else c a b) = 1
        split
        · exact ih y
        · exact h.r a b
  · induction x with
    | nil =>
      intro y
      cases y <;> rfl
    | cons a x ih =>
      intro y
      cases y with
      | nil => rfl
      | cons b y =>
        show (if c b a = 0 then v_lex c y x else c b a) = - (if c a b = 0 then v_lex c x y else c a b)
        by_cases e : c a b = 0
        · rw [if_pos e, if_pos (h.e0 e)]
          exact ih y
        · rw [if_neg e, if_neg fun z => e (h.e0 z)]
          exact h.s a b
  · induction x with
    | nil =>
      intro y w
      cases w
      · intro _ _
        exact Int.le_refl _
      · intro _ _
        show (-1 : Int) ≤ 0
        decide
    | cons a x ih =>
      intro y w
      cases y with
      | nil => exact fun k => absurd k (by show ¬ (1 : Int) ≤ 0; decide)
      | cons b y =>
        cases w with
        | nil => exact fun _ k => absurd k (by show ¬ (1 : Int) ≤ 0; decide)
        | cons d w =>
          show (if c a b = 0 then v_lex c x y else c a b) ≤ 0 → (if c b d = 0 then v_lex c y w else c b d) ≤ 0 → (if c a d = 0 then v_lex c x w else c a d) ≤ 0
          intro k1 k2
          have l1 : c a b ≤ 0 := by
            by_cases e : c a b = 0
            · omega
            · rwa [if_neg e] at k1
          have l2 : c b d ≤ 0 := by
            by_cases e : c b d = 0
            · omega
            · rwa [if_neg e] at k2
          have l3 := h.t a b d l1 l2
          by_cases e : c a d = 0
          · obtain ⟨e1, e2⟩ := h.z l1 l2 e
            rw [if_pos e]
            rw [if_pos e1] at k1
            rw [if_pos e2] at k2
            exact ih y w k1 k2
          · rw [if_neg e]
            exact l3
theorem v_tcmp_T : v_T v_tcmp := by
  refine ⟨fun x y => ?_, fun x y => ?_, fun x y w => ?_⟩ <;> unfold v_tcmp <;> split <;> (try split) <;> (try split) <;> (try split) <;> (try split) <;> (try split) <;> omega
theorem v_tc0 {x y : Int} : v_tcmp x y = 0 ↔ x = y := by
  unfold v_tcmp
  split
  · exact ⟨fun h => absurd h (by decide), fun h => by omega⟩
  · split
    · exact ⟨fun _ => by assumption, fun _ => rfl⟩
    · exact ⟨fun h => absurd h (by decide), fun h => by omega⟩
theorem v_tcL {x y : Int} (h : x < y) : v_tcmp x y = -1 := by
  unfold v_tcmp
  rw [if_pos h]
theorem v_tcG {x y : Int} (h : y < x) : v_tcmp x y = 1 := by
  unfold v_tcmp
  rw [if_neg (by omega), if_neg (by omega)]
theorem b_cmp_lex : ∀ x y : List Int, b_cmp x y = v_lex (fun a b => v_tcmp (a % 256) (b % 256)) x y := by
  intro x
  induction x with
  | nil => intro y; cases y <;> rfl
  | cons a x ih =>
    intro y
    cases y with
    | nil => rfl
    | cons b y =>
      show (if a % 256 < b % 256 then -1 else if b % 256 < a % 256 then 1 else b_cmp x y) = if v_tcmp (a % 256) (b % 256) = 0 then v_lex _ x y else v_tcmp (a % 256) (b % 256)
      rw [ih y]
      split
      · rename_i h
        rw [v_tcL h]
        rfl
      · split
        · rename_i h
          rw [v_tcG h]
          rfl
        · rw [if_pos (v_tc0.mpr (by omega))]
theorem b_cmp_T : v_T b_cmp := by
  rw [show b_cmp = v_lex (fun a b => v_tcmp (a % 256) (b % 256)) from funext fun x => funext fun y => b_cmp_lex x y]
  exact (v_tcmp_T.pb fun a : Int => a % 256).lex
theorem v_ncmp_t (X Y : Int64) : v_ncmp X Y = v_tcmp X.toInt Y.toInt := by
  have h1 := u_lt X Y
  have h2 := u_gt X Y
  unfold v_ncmp
  by_cases g1 : g_lc X Y < 0
  · rw [if_pos g1, v_tcL (h1.mp g1)]
  · rw [if_neg g1]
    by_cases g2 : g_lc X Y = 0
    · rw [if_pos g2, (v_tc0).mpr (by have k1 := fun z => g1 (h1.mpr z); have k2 : ¬ Y.toInt < X.toInt := fun z => by have := h2.mpr z; omega
                                     omega)]
    · rw [if_neg g2, v_tcG (h2.mp (by omega))]
theorem v_ncmp_T : v_T v_ncmp := by
  rw [show v_ncmp = fun X Y : Int64 => v_tcmp X.toInt Y.toInt from funext fun x => funext fun y => v_ncmp_t x y]
  exact v_tcmp_T.pb Int64.toInt
def v_ec (f : Int → List Int → Int → List Int → Int) (rows : Bool) (e g : b_E) : Int := if v_tcmp (b_cl e.1) (b_cl g.1) = 0 then (if (bif rows then 0 else b_cmp e.2.1 g.2.1) = 0 then f e.1 e.2.2 g.1 g.2.2 else (bif rows then 0 else b_cmp e.2.1 g.2.1)) else v_tcmp (b_cl e.1) (b_cl g.1)
theorem v_cmpL_lex (f : Int → List Int → Int → List Int → Int) (rows : Bool) : ∀ x y : List b_E, v_cmpL f rows x y = v_lex (v_ec f rows) x y := by
  intro x
  induction x with
  | nil => intro y; cases y <;> rfl
  | cons e x ih =>
    intro y
    cases y with
    | nil => rfl
    | cons g y =>
      show (if b_cl e.1 < b_cl g.1 then -1 else if b_cl g.1 < b_cl e.1 then 1 else if (bif rows then 0 else b_cmp e.2.1 g.2.1) = 0 then (if f e.1 e.2.2 g.1 g.2.2 = 0 then v_cmpL f rows x y else f e.1 e.2.2 g.1 g.2.2) else b_cmp e.2.1 g.2.1) = if v_ec f rows e g = 0 then v_lex (v_ec f rows) x y else v_ec f rows e g
      rw [ih y]
      unfold v_ec
      split
      · rename_i h
        rw [v_tcL h]
        rfl
      · split
        · rename_i h
          rw [v_tcG h]
          rfl
        · rw [if_pos (v_tc0.mpr (by omega))]
          cases rows
          · show (if b_cmp e.2.1 g.2.1 = 0 then _ else b_cmp e.2.1 g.2.1) = if (if b_cmp e.2.1 g.2.1 = 0 then f e.1 e.2.2 g.1 g.2.2 else b_cmp e.2.1 g.2.1) = 0 then _ else (if b_cmp e.2.1 g.2.1 = 0 then f e.1 e.2.2 g.1 g.2.2 else b_cmp e.2.1 g.2.1)
            by_cases hn : b_cmp e.2.1 g.2.1 = 0
            · rw [if_pos hn, if_pos hn]
            · rw [if_neg hn, if_neg hn, if_neg hn]
          · rfl
/-- values: kind and bytes -/
noncomputable def v_vc (F : Nat) (x y : Int × List Int) : Int := v_cmp F x.1 x.2 y.1 y.2
noncomputable def v_c2 (F : Nat) (i : Int) (x y : Int × List Int) : Int := if i < 2 then 0 else if i = 2 then v_ncmp (v_num x.1 x.2) (v_num y.1 y.2) else if i = 3 then b_cmp (v_txt x.2) (v_txt y.2) else if i = 6 then v_tcmp (b_fn x.2 0) (b_fn y.2 0) else v_cmpL (v_cmp F) (i == 5) (b_ch x.2) (b_ch y.2)
theorem v_vc_eq (F : Nat) (x y : Int × List Int) : v_vc (F + 1) x y = if v_tcmp (b_cl x.1) (b_cl y.1) = 0 then v_c2 F (b_cl x.1) x y else v_tcmp (b_cl x.1) (b_cl y.1) := by
  show (if b_cl x.1 < b_cl y.1 then -1 else if b_cl y.1 < b_cl x.1 then 1 else if b_cl x.1 < 2 then 0 else if b_cl x.1 = 2 then v_ncmp (v_num x.1 x.2) (v_num y.1 y.2) else if b_cl x.1 = 3 then b_cmp (v_txt x.2) (v_txt y.2) else if b_cl x.1 = 6 then v_tcmp (b_fn x.2 0) (b_fn y.2 0) else v_cmpL (v_cmp F) (b_cl x.1 == 5) (b_ch x.2) (b_ch y.2)) = _
  split
  · rename_i h
    rw [v_tcL h]
    rfl
  · split
    · rename_i h
      rw [v_tcG h]
      rfl
    · rw [if_pos (v_tc0.mpr (by omega))]
      rfl
theorem v_vc_T : ∀ F : Nat, v_T (v_vc F) := by
  intro F
  induction F with
  | zero => exact v_T.zero
  | succ F ih =>
    rw [show v_vc (F + 1) = fun x y => if v_tcmp (b_cl x.1) (b_cl y.1) = 0 then v_c2 F (b_cl x.1) x y else v_tcmp (b_cl x.1) (b_cl y.1) from funext fun x => funext fun y => v_vc_eq F x y]
    refine v_T.tl (c1 := fun x y : Int × List Int => v_tcmp (b_cl x.1) (b_cl y.1)) (c2 := v_c2 F) (v_tcmp_T.pb _) (fun x => b_cl x.1) (fun x y h => v_tc0.mp h) fun i => ?_
    unfold v_c2
    by_cases h2 : i < 2
    · simp only [if_pos h2]
      exact v_T.zero
    · simp only [if_neg h2]
      by_cases h3 : i = 2
      · simp only [if_pos h3]
        exact v_ncmp_T.pb fun x : Int × List Int => v_num x.1 x.2
      · simp only [if_neg h3]
        by_cases h4 : i = 3
        · simp only [if_pos h4]
          exact b_cmp_T.pb fun x : Int × List Int => v_txt x.2
        · simp only [if_neg h4]
          by_cases h6 : i = 6
          · simp only [if_pos h6]
            exact v_tcmp_T.pb fun x : Int × List Int => b_fn x.2 0
          · simp only [if_neg h6]
            rw [show (fun x y : Int × List Int => v_cmpL (v_cmp F) (i == 5) (b_ch x.2) (b_ch y.2)) = fun x y => v_lex (v_ec (v_cmp F) (i == 5)) (b_ch x.2) (b_ch y.2) from funext fun x => funext fun y => v_cmpL_lex _ _ _ _]
            refine v_T.pb (c := v_lex (v_ec (v_cmp F) (i == 5))) (v_T.lex ?_) fun x : Int × List Int => b_ch x.2
            have hnm : v_T (fun e g : b_E => bif i == 5 then 0 else b_cmp e.2.1 g.2.1) := by
              cases i == 5
              · exact b_cmp_T.pb fun e : b_E => e.2.1
              · exact v_T.zero
            exact v_T.th (v_tcmp_T.pb fun e : b_E => b_cl e.1) (v_T.th hnm (ih.pb fun e : b_E => (e.1, e.2.2)))
