/-! what stays: all but some refs; the class's paths -/
def g_fr (S : Nat → Prop) (M M1 : g_M) : Prop := M1.1 = M.1 ∧ ∀ x, ¬ S x → g_i M1 x = g_i M x ∧ g_r M1 x = g_r M x
theorem g_fr.rf (S : Nat → Prop) (M : g_M) : g_fr S M M := ⟨rfl, fun _ _ => ⟨rfl, rfl⟩⟩
theorem g_fr.tr {S : Nat → Prop} {M M1 M2 : g_M} (h : g_fr S M M1) (h2 : g_fr S M1 M2) : g_fr S M M2 := ⟨h2.1.trans h.1, fun x hx => ⟨(h2.2 x hx).1.trans (h.2 x hx).1, (h2.2 x hx).2.trans (h.2 x hx).2⟩⟩
theorem g_fr.up {S T : Nat → Prop} {M M1 : g_M} (h : g_fr S M M1) (hST : ∀ x, S x → T x) : g_fr T M M1 := ⟨h.1, fun x hx => h.2 x fun hs => hx (hST x hs)⟩
theorem g_fr.wi {S : Nat → Prop} {M : g_M} {a : Nat} (k v : Int) (h : S a) : g_fr S M (g_wi M a k v) := ⟨rfl, fun x hx => ⟨funext fun j => if_neg (fun (e : x = a ∧ j = k) => hx (by rw [e.1]; exact h)), rfl⟩⟩
theorem g_fr.wr {S : Nat → Prop} {M : g_M} {a : Nat} (k : Int) (v : Option Nat) (h : S a) : g_fr S M (g_wr M a k v) := ⟨rfl, fun x hx => ⟨rfl, funext fun j => if_neg (fun (e : x = a ∧ j = k) => hx (by rw [e.1]; exact h))⟩⟩
theorem g_fr.sh {S : Nat → Prop} {M M1 : g_M} (h : g_fr S M M1) (x : Nat) : g_sh M1 x = g_sh M x := by
  unfold g_sh
  rw [h.1]
theorem g_fr.O {S : Nat → Prop} {M M1 : g_M} (h : g_fr S M M1) {x c : Nat} (ho : g_O M x c) : g_O M1 x c := by
  unfold g_O
  rw [h.sh]
  exact ho
theorem g_fr.A {S : Nat → Prop} {M M1 : g_M} (h : g_fr S M M1) {x t : Nat} {n : Int} (ho : g_A M x t n) : g_A M1 x t n := by
  unfold g_A
  rw [h.sh]
  exact ho
theorem p_sp_w : ∀ {w y : List Int}, (∀ c ∈ w, c ≠ 46) → p_sp (w ++ 46 :: y) = w :: p_sp y ∧ p_sp w = [w] := by
  intro w y
  induction w with
  | nil =>
    intro _
    refine ⟨?_, rfl⟩
    rw [List.nil_append, p_sp_cons, if_pos rfl]
  | cons c w ih =>
    intro h
    have hc := h c List.mem_cons_self
    obtain ⟨h1, h2⟩ := ih fun e he => h e (List.mem_cons_of_mem _ he)
    constructor
    · rw [List.cons_append, p_sp_cons, if_neg hc, h1]
    · rw [p_sp_cons, if_neg hc, h2]
theorem p_dol_cons (st : Bool) (c : Int) (x : List Int) : p_dol st (c :: x) = ((st && decide (c = 36)) || p_dol (decide (c = 46)) x) := by cases st <;> rfl
theorem p_dol_f : ∀ {w y : List Int}, (∀ c ∈ w, c ≠ 46) → p_dol false (w ++ 46 :: y) = p_dol true y ∧ p_dol false w = false := by
  intro w y
  induction w with
  | nil =>
    intro _
    exact ⟨by rw [List.nil_append, p_dol_cons]; rfl, rfl⟩
  | cons c w ih =>
    intro h
    have hc := h c List.mem_cons_self
    obtain ⟨h1, h2⟩ := ih fun e he => h e (List.mem_cons_of_mem _ he)
    constructor
    · rw [List.cons_append, p_dol_cons, decide_eq_false hc, h1]
      rfl
    · rw [p_dol_cons, decide_eq_false hc, h2]
      rfl
theorem p_dol_w {c : Int} {w y : List Int} (h : ∀ e ∈ c :: w, e ≠ 46) : p_dol true (c :: w ++ 46 :: y) = (decide (c = 36) || p_dol true y) ∧ p_dol true (c :: w) = decide (c = 36) := by
  have hc := h c List.mem_cons_self
  obtain ⟨h1, h2⟩ := p_dol_f (y := y) fun e he => h e (List.mem_cons_of_mem c he)
  constructor
  · rw [List.cons_append, p_dol_cons, decide_eq_false hc, h1]
    rfl
  · rw [p_dol_cons, decide_eq_false hc, h2, Bool.or_false]
    rfl
/-- steps in two rows of places -/
def p_rg (A B : Int → Int) : Nat → Int → List (List Int) → Prop
  | _, _, [] => True
  | k, p, s :: r => A k = p ∧ B k = p + s.length ∧ p_rg A B (k + 1) (p + s.length + 1) r
/-- a Path object of the class -/
def p_P (M : g_M) (o f t : Nat) : Prop := g_O M o 5 ∧ g_r M o 1 = some f ∧ g_r M o 2 = some t ∧ g_A M f 1 8 ∧ g_A M t 1 8 ∧ f ≠ t
theorem p_P.ne {M : g_M} {o f t : Nat} (h : p_P M o f t) : o ≠ f ∧ o ≠ t := by
  obtain ⟨h1, -, -, ⟨m, h4, -⟩, ⟨m2, h5, -⟩, -⟩ := h
  unfold g_O at h1
  constructor
  · rintro rfl
    rw [h1] at h4
    exact absurd h4 (by simp)
  · rintro rfl
    rw [h1] at h5
    exact absurd h5 (by simp)
/-- it holds the path x, which stands at p in the bytes a -/
def p_is (M : g_M) (o f t a : Nat) (p : Int) (x : List Int) : Prop := g_r M o 0 = some a ∧ g_i M o 3 = (p_sp x).length ∧ g_i M o 4 = (if p_dol true x = true then 1 else 0) ∧ p_rg (g_i M f) (g_i M t) 0 p (p_sp x)
def p_S (o f t : Nat) (x : Nat) : Prop := x = o ∨ x = f ∨ x = t
section PATHC
variable {d : Nat} {o f t a : Nat} {n : Int} {p : Int} {x : List Int} {Q : Int → g_M → Prop}
/-- a step is put down -/
theorem c_step {M : g_M} {w : List Int} {k : Nat} {s i : Int} {c0 : Int} (hP : p_P M o f t) (hA : g_A M a 0 n) (hn : n ≤ 1000000000) (ho : o ≠ a) (hf : f ≠ a) (ht : t ≠ a) (hk : g_i M o 3 = k) (h0 : 0 ≤ p) (hps : p ≤ s) (hsi : i = s + (c0 :: w).length) (hip : i ≤ p + x.length) (h1 : p + x.length ≤ n) (hc0 : g_i M a s = c0)
    (hq0 : ¬ k < 8 → Q 0 M)
    (hq1 : k < 8 → ∀ M1, g_fr (p_S o f t) M M1 → p_P M1 o f t → g_r M1 o 0 = g_r M o 0 → g_i M1 o 3 = (k : Int) + 1 → (∀ D : Bool, g_i M o 4 = (if D = true then 1 else 0) → g_i M1 o 4 = (if (D || decide (c0 = 36)) = true then 1 else 0)) → (∀ j : Int, j ≠ k → g_i M1 f j = g_i M f j ∧ g_i M1 t j = g_i M t j) → g_i M1 f k = s → g_i M1 t k = i → g_Run d 90 38 [(0, .ref o), (1, .ref a), (2, g_n p), (3, g_n (p + x.length)), (4, g_n (i + 1)), (5, g_n (i + 1))] [] M1 (g_qI Q)) :
    g_Run d 90 68 [(0, .ref o), (1, .ref a), (2, g_n p), (3, g_n (p + x.length)), (4, g_n s), (5, g_n i)] [] M (g_qI Q) := by
  obtain ⟨hof, hot⟩ := hP.ne
  obtain ⟨P1, P2, P3, P4, P5, P6⟩ := id hP
  rw [List.length_cons] at hsi
  refine s_X5_set_68 ⟨by omega, by omega⟩ ⟨by omega, by omega⟩ ⟨by omega, by omega⟩ ⟨by omega, by omega⟩ fun hok => ⟨fun g => absurd g (by omega), fun _ => ⟨P1, ?_⟩⟩
  have hD := hok.2 o _ P1
  rw [hk]
  refine ⟨fun g => ⟨f, P2, 8, P4, ⟨by omega, by omega⟩, fun M7 e7 hok7 => ?_⟩, fun g => hq0 (by omega)⟩
  subst e7
  have e3 : g_i (g_wi M f k s) o 3 = k := by rw [g_i_wi, if_neg (fun z => hof z.1), hk]
  refine ⟨t, P3, 8, P5, by rw [e3]; exact ⟨by omega, by omega⟩, fun M16 e16 hok16 => ?_⟩
  rw [e3] at e16
  subst e16
  have e4 : g_i (g_wi (g_wi M f k s) t k i) o 4 = g_i M o 4 := by rw [g_i_wi, if_neg (fun z => hot z.1), g_i_wi, if_neg (fun z => hof z.1)]
  have e5 : g_i (g_wi (g_wi M f k s) t k i) a s = c0 := by rw [g_i_wi, if_neg (fun z => ht z.1.symm), g_i_wi, if_neg (fun z => hf z.1.symm), hc0]
  have h130 : ∀ v : Int, (v = 0 ∨ v = 1) → (∀ D : Bool, g_i M o 4 = (if D = true then 1 else 0) → v = (if (D || decide (c0 = 36)) = true then 1 else 0)) → g_Run d 90 130 [(0, .ref o), (1, .ref a), (2, g_n p), (3, g_n (p + x.length)), (4, g_n s), (5, g_n i)] [g_n v, .ref o] (g_wi (g_wi M f k s) t k i) (g_qI Q) := by
    intro v hv hvD
    refine s_X5_set_130 ⟨by omega, by omega⟩ ⟨by omega, by omega⟩ ⟨by omega, by omega⟩ ⟨by omega, by omega⟩ ⟨by omega, by omega⟩ fun _ => ⟨P1, hv, fun M3 e _ => ⟨?_, ?_, fun M9 e9 _ => ⟨⟨by omega, by omega⟩, ⟨by omega, by omega⟩, ?_⟩⟩⟩
    · subst e
      exact P1
    · subst e
      rw [g_i_wi, if_neg (by omega), g_i_wi, if_neg (fun z => hot z.1), e3]
      exact ⟨by omega, by omega⟩
    · subst e
      subst e9
      have e6 : g_i (g_wi (g_wi (g_wi M f k s) t k i) o 4 v) o 3 = k := by rw [g_i_wi, if_neg (by omega), g_i_wi, if_neg (fun z => hot z.1), e3]
      rw [e6]
      refine hq1 (by omega) _ ?_ ?_ ?_ ?_ ?_ ?_ ?_ ?_
      · exact (((g_fr.wi _ _ (Or.inr (Or.inl rfl))).tr (g_fr.wi _ _ (Or.inr (Or.inr rfl)))).tr (g_fr.wi _ _ (Or.inl rfl))).tr (g_fr.wi _ _ (Or.inl rfl))
      · exact ⟨P1, P2, P3, P4, P5, P6⟩
      · rfl
      · rw [g_i_wi, if_pos ⟨rfl, rfl⟩]
      · intro D hD2
        rw [g_i_wi, if_neg (by omega), g_i_wi, if_pos ⟨rfl, rfl⟩]
        exact hvD D hD2
      · intro j hj
        constructor
        · rw [g_i_wi, if_neg (fun z => hof z.1.symm), g_i_wi, if_neg (fun z => hof z.1.symm), g_i_wi, if_neg (fun z => P6 z.1), g_i_wi, if_neg (fun z => hj z.2)]
        · rw [g_i_wi, if_neg (fun z => hot z.1.symm), g_i_wi, if_neg (fun z => hot z.1.symm), g_i_wi, if_neg (fun z => hj z.2), g_i_wi, if_neg (fun z => P6 z.1.symm)]
      · rw [g_i_wi, if_neg (fun z => hof z.1.symm), g_i_wi, if_neg (fun z => hof z.1.symm), g_i_wi, if_neg (fun z => P6 z.1), g_i_wi, if_pos ⟨rfl, rfl⟩]
      · rw [g_i_wi, if_neg (fun z => hot z.1.symm), g_i_wi, if_neg (fun z => hot z.1.symm), g_i_wi, if_pos ⟨rfl, rfl⟩]
  rw [e4]
  refine ⟨fun g0 => ⟨n, hA, ⟨by omega, by omega⟩, ?_⟩, fun g0 => h130 1 (Or.inr rfl) fun D hD2 => ?_⟩
  · rw [e5]
    refine ⟨fun g1 => h130 1 (Or.inr rfl) fun D hD2 => ?_, fun g1 => h130 0 (Or.inl rfl) fun D hD2 => ?_⟩
    · rw [decide_eq_true g1, Bool.or_true, if_pos rfl]
    · rw [decide_eq_false g1, Bool.or_false, ← hD2, g0]
  · have : D = true := by
      cases D
      · exact absurd (by simpa using hD2) g0
      · rfl
    rw [this]
    rfl
def p_good (k : Nat) (z y : List Int) : Prop := (∀ e ∈ p_sp z, e ≠ []) ∧ k + (p_sp z).length ≤ 8 ∧ b_nz y
theorem p_sp_pos (z : List Int) : 1 ≤ (p_sp z).length := by
  rw [p_sp_eq, List.length_cons]
  omega
theorem c_setL (hn : n ≤ 1000000000) (ho : o ≠ a) (hf : f ≠ a) (ht : t ≠ a) (h0 : 0 ≤ p) (h1 : p + x.length ≤ n) : ∀ (y w : List Int) (k : Nat) (s i : Int) (D : Bool) (M : g_M), p_P M o f t → g_A M a 0 n → b_at (g_i M a) s (w ++ y) → i = s + w.length → s + (w ++ y).length = p + x.length → p ≤ s → (∀ c ∈ w, c ≠ 46) → g_i M o 3 = k → g_i M o 4 = (if D = true then 1 else 0) →
    (p_good k (w ++ y) y → ∀ M1, g_fr (p_S o f t) M M1 → p_P M1 o f t → g_r M1 o 0 = g_r M o 0 → g_i M1 o 3 = ((k + (p_sp (w ++ y)).length : Nat) : Int) → g_i M1 o 4 = (if (D || p_dol true (w ++ y)) = true then 1 else 0) → (∀ j : Nat, j < k → g_i M1 f j = g_i M f j ∧ g_i M1 t j = g_i M t j) → p_rg (g_i M1 f) (g_i M1 t) k s (p_sp (w ++ y)) → Q 1 M1) →
    (¬ p_good k (w ++ y) y → ∀ M1, g_fr (p_S o f t) M M1 → p_P M1 o f t → Q 0 M1) → g_Run d 90 38 [(0, .ref o), (1, .ref a), (2, g_n p), (3, g_n (p + x.length)), (4, g_n s), (5, g_n i)] [] M (g_qI Q) := by
  have haS : ¬ p_S o f t a := by
    rintro (rfl | rfl | rfl)
    · exact ho rfl
    · exact hf rfl
    · exact ht rfl
  intro y
  induction y with
  | nil =>
    intro w k s i D M hP hA hat hi hlen hps hw hk hD k1 k0
    rw [List.append_nil] at hat hlen k1 k0
    refine s_X5_set_38 ⟨by omega, by omega⟩ ⟨by omega, by omega⟩ ⟨by omega, by omega⟩ ⟨by omega, by omega⟩ fun _ => ⟨fun g => absurd g (by omega), fun _ => ⟨fun g => absurd g (by omega), fun _ => ?_⟩⟩
    obtain ⟨-, hsp⟩ := p_sp_w (y := []) hw
    rcases w with _ | ⟨c0, w⟩
    · rw [List.length_nil] at hi
      exact s_X5_set_68 ⟨by omega, by omega⟩ ⟨by omega, by omega⟩ ⟨by omega, by omega⟩ ⟨by omega, by omega⟩ fun _ => ⟨fun _ => k0 (fun z => z.1 [] List.mem_cons_self rfl) M (g_fr.rf _ _) hP, fun g => absurd (by omega) g⟩
    · refine c_step (w := w) (c0 := c0) hP hA hn ho hf ht hk h0 hps hi (by omega) h1 (b_cons.mp hat).1 (fun g => k0 (fun z => ?_) M (g_fr.rf _ _) hP) (fun g M1 q1 q2 q3 q4 q5 q6 q7 q8 => ?_)
      · have := z.2.1
        rw [hsp, List.length_singleton] at this
        omega
      · refine s_X5_set_38 ⟨by omega, by omega⟩ ⟨by omega, by omega⟩ ⟨by rw [List.length_cons] at hi; omega, by omega⟩ ⟨by rw [List.length_cons] at hi; omega, by omega⟩ fun _ => ⟨fun _ => ?_, fun g => absurd (by omega) g⟩
        rw [hsp] at k1
        refine k1 ⟨fun e he => ?_, by rw [hsp, List.length_singleton]; omega, fun c hc => absurd hc (by simp)⟩ M1 q1 q2 q3 (by rw [q4, List.length_singleton]; omega) ?_ (fun j hj => q6 j (by omega)) ⟨q7, by rw [q8, hi], trivial⟩
        · rw [hsp] at he
          rw [List.mem_singleton.mp he]
          exact List.cons_ne_nil _ _
        · rw [(p_dol_w (y := []) hw).2]
          exact q5 D hD
  | cons c y ih =>
    intro w k s i D M hP hA hat hi hlen hps hw hk hD k1 k0
    have hlen2 := hlen
    rw [List.length_append, List.length_cons] at hlen2
    have hci : g_i M a i = c := by
      rw [hi]
      exact (b_cons.mp (b_app.mp hat).2).1
    refine s_X5_set_38 ⟨by omega, by omega⟩ ⟨by omega, by omega⟩ ⟨by omega, by omega⟩ ⟨by omega, by omega⟩ fun _ => ⟨fun g => absurd g (by omega), fun _ => ⟨fun _ => ⟨n, hA, ⟨by omega, by omega⟩, ?_⟩, fun g => absurd (by omega) g⟩⟩
    rw [hci]
    refine ⟨fun g46 => ?_, fun g46 => ⟨⟨by omega, by omega⟩, fun g0 => ?_, fun g0 => ⟨⟨by omega, by omega⟩, ?_⟩⟩⟩
    · subst g46
      obtain ⟨hsp, -⟩ := p_sp_w (y := y) hw
      have hpos := p_sp_pos y
      rcases w with _ | ⟨c0, w⟩
      · rw [List.length_nil] at hi
        refine s_X5_set_68 ⟨by omega, by omega⟩ ⟨by omega, by omega⟩ ⟨by omega, by omega⟩ ⟨by omega, by omega⟩ fun _ => ⟨fun _ => k0 (fun z => z.1 [] ?_ rfl) M (g_fr.rf _ _) hP, fun g => absurd (by omega) g⟩
        rw [hsp]
        exact List.mem_cons_self
      · rw [hsp] at k1
        rw [List.length_cons] at k1
        refine c_step (w := w) (c0 := c0) hP hA hn ho hf ht hk h0 hps hi (by omega) h1 (b_cons.mp hat).1 (fun g => k0 (fun z => ?_) M (g_fr.rf _ _) hP) (fun g M1 q1 q2 q3 q4 q5 q6 q7 q8 => ?_)
        · have := z.2.1
          rw [hsp, List.length_cons] at this
          omega
        · have hat1 : b_at (g_i M1 a) (i + 1) ([] ++ y) := by
            rw [(q1.2 a haS).1, hi]
            exact (b_cons.mp (b_app.mp hat).2).2
          have hgd : p_good k ((c0 :: w) ++ 46 :: y) (46 :: y) ↔ p_good (k + 1) ([] ++ y) y := by
            unfold p_good
            rw [hsp, List.length_cons, List.nil_append]
            constructor
            · rintro ⟨z1, z2, z3⟩
              exact ⟨fun e he => z1 e (List.mem_cons_of_mem _ he), by omega, fun e he => z3 e (List.mem_cons_of_mem _ he)⟩
            · rintro ⟨z1, z2, z3⟩
              refine ⟨fun e he => ?_, by omega, fun e he => ?_⟩
              · rcases List.mem_cons.mp he with rfl | he
                · exact List.cons_ne_nil _ _
                · exact z1 e he
              · rcases List.mem_cons.mp he with rfl | he
                · decide
                · exact z3 e he
          refine ih [] (k + 1) (i + 1) (i + 1) (D || decide (c0 = 36)) M1 q2 (q1.A hA) hat1 (by rw [List.length_nil]; omega) (by rw [List.nil_append]; omega) (by omega) (fun e he => absurd he (by simp)) (by rw [q4]; omega) (q5 D hD) (fun z M2 r1 r2 r3 r4 r5 r6 r7 => ?_) (fun z M2 r1 r2 => k0 (fun z2 => z (hgd.mp z2)) M2 (q1.tr r1) r2)
          rw [List.nil_append] at r4 r5 r7
          refine k1 (hgd.mpr z) M2 (q1.tr r1) r2 (r3.trans q3) (by rw [r4]; omega) ?_ (fun j hj => ?_) ⟨?_, ?_, ?_⟩
          · rw [r5, (p_dol_w (y := y) hw).1, Bool.or_assoc]
          · obtain ⟨a1, a2⟩ := r6 j (by omega)
            obtain ⟨a3, a4⟩ := q6 j (by omega)
            exact ⟨a1.trans a3, a2.trans a4⟩
          · rw [(r6 k (by omega)).1, q7]
          · rw [(r6 k (by omega)).2, q8, hi]
          · rwa [← hi]
    · exact k0 (fun z => z.2.2 c List.mem_cons_self g0) M (g_fr.rf _ _) hP
    · have e1 : (w ++ [c]) ++ y = w ++ c :: y := by rw [List.append_assoc]; rfl
      have hgd : p_good k (w ++ c :: y) (c :: y) ↔ p_good k (w ++ c :: y) y := by
        unfold p_good
        constructor
        · rintro ⟨z1, z2, z3⟩
          exact ⟨z1, z2, fun e he => z3 e (List.mem_cons_of_mem _ he)⟩
        · rintro ⟨z1, z2, z3⟩
          refine ⟨z1, z2, fun e he => ?_⟩
          rcases List.mem_cons.mp he with rfl | he
          · exact g0
          · exact z3 e he
      refine ih (w ++ [c]) k s (i + 1) D M hP hA (by rwa [e1]) (by rw [List.length_append, List.length_singleton]; omega) (by rwa [e1]) hps (fun e he => ?_) hk hD ?_ ?_
      · rcases List.mem_append.mp he with he | he
        · exact hw e he
        · rw [List.mem_singleton.mp he]
          exact g46
      · rw [e1]
        exact fun z => k1 (hgd.mpr z)
      · rw [e1]
        exact fun z => k0 fun z2 => z (hgd.mp z2)
/-- a Path takes a path -/
theorem c_set {M : g_M} {r0 : Option Nat} (hP : p_P M o f t) (hA : g_A M a 0 n) (hn : n ≤ 1000000000) (ho : o ≠ a) (hf : f ≠ a) (ht : t ≠ a) (hx : b_at (g_i M a) p x) (h0 : 0 ≤ p) (h1 : p + x.length ≤ n)
    (k1 : p_ok x → ∀ M1, g_fr (p_S o f t) M M1 → p_P M1 o f t → p_is M1 o f t a p x → Q 1 M1) (k0 : ¬ p_ok x → ∀ M1, g_fr (p_S o f t) M M1 → p_P M1 o f t → Q 0 M1) : g_Call (d + 1) 90 [.ref o, .ref a, g_n p, g_n (p + x.length)] M (g_qI Q) := by
  obtain ⟨hof, hot⟩ := hP.ne
  obtain ⟨P1, P2, P3, P4, P5, P6⟩ := id hP
  refine m_X5_set ⟨by omega, by omega⟩ ⟨by omega, by omega⟩ fun _ => ⟨P1, fun M2 e2 _ M6 e6 _ M10 e10 _ => ?_⟩
  have hfr : g_fr (p_S o f t) M M10 := by
    subst e2
    subst e6
    subst e10
    exact ((g_fr.wr _ _ (Or.inl rfl)).tr (g_fr.wi _ _ (Or.inl rfl))).tr (g_fr.wi _ _ (Or.inl rfl))
  have hP10 : p_P M10 o f t := by
    subst e2
    subst e6
    subst e10
    refine ⟨P1, ?_, ?_, P4, P5, P6⟩
    · show g_r (g_wr M o 0 (some a)) o 1 = some f
      rw [g_r_wr, if_neg (by omega)]
      exact P2
    · show g_r (g_wr M o 0 (some a)) o 2 = some t
      rw [g_r_wr, if_neg (by omega)]
      exact P3
  refine ⟨fun g => absurd g (by omega), fun _ => ⟨fun g => ⟨n, hfr.A hA, ⟨by omega, by omega⟩, fun g2 => absurd g2 (by omega), fun _ => ?_⟩, fun g => k0 (fun z => ?_) M10 hfr hP10⟩⟩
  · have haS : ¬ p_S o f t a := by
      rintro (rfl | rfl | rfl)
      · exact ho rfl
      · exact hf rfl
      · exact ht rfl
    have e3 : g_i M10 o 3 = ((0 : Nat) : Int) := by
      rw [e10, g_i_wi, if_neg (by omega), e6, g_i_wi, if_pos ⟨rfl, rfl⟩]
      rfl
    have e4 : g_i M10 o 4 = (if false = true then 1 else 0) := by
      rw [e10, g_i_wi, if_pos ⟨rfl, rfl⟩]
      rfl
    have er : g_r M10 o 0 = some a := by
      subst e2
      subst e6
      subst e10
      show g_r (g_wr M o 0 (some a)) o 0 = some a
      rw [g_r_wr, if_pos ⟨rfl, rfl⟩]
    have hgd : p_good 0 ([] ++ x) x ↔ p_ok x := by
      unfold p_good p_ok
      rw [Nat.zero_add, List.nil_append]
    refine c_setL hn ho hf ht h0 h1 x [] 0 p p false M10 hP10 (hfr.A hA) (by rw [(hfr.2 a haS).1]; exact hx) (by rw [List.length_nil]; omega) (by rw [List.nil_append]) (Int.le_refl _) (fun e he => absurd he (by simp)) e3 e4 (fun z M1 r1 r2 r3 r4 r5 _ r7 => ?_) (fun z M1 r1 r2 => k0 (fun z2 => z (hgd.mpr z2)) M1 (hfr.tr r1) r2)
    rw [List.nil_append] at r4 r5 r7
    exact k1 (hgd.mp z) M1 (hfr.tr r1) r2 ⟨r3.trans er, by rw [r4, Nat.zero_add], by rw [r5, Bool.false_or], r7⟩
  · have : x = [] := List.eq_nil_of_length_eq_zero (by omega)
    subst this
    exact z.1 [] List.mem_cons_self rfl
end PATHC
