/-! elements with their places; the reference finds, counts -/
def L_at : Int → List b_E → List (Int × b_E)
  | _, [] => []
  | q, e :: es => (q, e) :: L_at (q + (b_el e.1 e.2.1 e.2.2).length) es
def L_find (x : List Int) : List (Int × b_E) → Option (Int × b_E)
  | [] => none
  | z :: r => if z.2.2.1 = x then some z else L_find x r
def L_opt : Option (Int × b_E) → Int
  | none => -1
  | some z => z.1
theorem L_at_len : ∀ (es : List b_E) (q : Int), (L_at q es).length = es.length := by
  intro es
  induction es with
  | nil => exact fun _ => rfl
  | cons e es ih =>
    intro q
    show (L_at (q + _) es).length + 1 = es.length + 1
    rw [ih]
/-- another place, the same elements -/
def L_sh (s : Int) (z : Int × b_E) : Int × b_E := (z.1 + s, z.2)
theorem L_at_sh (s : Int) : ∀ (es : List b_E) (q : Int), L_at (q + s) es = (L_at q es).map (L_sh s) := by
  intro es
  induction es with
  | nil => exact fun _ => rfl
  | cons e es ih =>
    intro q
    show (q + s, e) :: L_at (q + s + _) es = (q + s, e) :: (L_at (q + _) es).map (L_sh s)
    rw [← ih, show q + s + ((b_el e.1 e.2.1 e.2.2).length : Int) = q + (b_el e.1 e.2.1 e.2.2).length + s by omega]
theorem L_find_sh (s : Int) (x : List Int) : ∀ l : List (Int × b_E), L_find x (l.map (L_sh s)) = (L_find x l).map (L_sh s) := by
  intro l
  induction l with
  | nil => rfl
  | cons z l ih =>
    show (if z.2.2.1 = x then some (L_sh s z) else L_find x (l.map (L_sh s))) = (if z.2.2.1 = x then some z else L_find x l).map (L_sh s)
    by_cases g : z.2.2.1 = x
    · rw [if_pos g, if_pos g]
      rfl
    · rw [if_neg g, if_neg g, ih]
theorem L_at_st {B : Int → Int} {n : Int} {D : Nat} : ∀ {es : List b_E} {q : Int}, b_sts B n q D es → ∀ z ∈ L_at q es, b_st B n z.1 D z.2.1 z.2.2.1 z.2.2.2 ∧ z.2 ∈ es := by
  intro es
  induction es with
  | nil => exact fun _ z hz => absurd hz (by simp [L_at])
  | cons e es ih =>
    intro q h z hz
    obtain ⟨h1, h2⟩ := h.cons
    rcases List.mem_cons.mp hz with rfl | hz
    · exact ⟨h1, List.mem_cons_self⟩
    · obtain ⟨h3, h4⟩ := ih h2 z hz
      exact ⟨h3, List.mem_cons_of_mem _ h4⟩
theorem L_find_mem {x : List Int} : ∀ {l : List (Int × b_E)} {z : Int × b_E}, L_find x l = some z → z ∈ l ∧ z.2.2.1 = x := by
  intro l
  induction l with
  | nil => exact fun h => absurd h (by simp [L_find])
  | cons y l ih =>
    intro z h
    have h : (if y.2.2.1 = x then some y else L_find x l) = some z := h
    by_cases g : y.2.2.1 = x
    · rw [if_pos g] at h
      rw [← Option.some.inj h]
      exact ⟨List.mem_cons_self, g⟩
    · rw [if_neg g] at h
      exact ⟨List.mem_cons_of_mem _ (ih h).1, (ih h).2⟩
section FINDE
variable {d : Nat} {M : g_M} {Q : Int → g_M → Prop} {m b : Nat} {p c : Int} {x : List Int} {D : Nat} {es0 : List b_E}
theorem e_findE (hR : e_R M m b) (h : e_tl (g_i M b) c (c + 4) D es0 es0) (hx : b_at (g_i M b) p x) (h0 : 0 ≤ p) (h1 : p + x.length ≤ 2706210) (hQ : Q (L_opt (L_find x (L_at (c + 4) es0))) M) : g_Call (d + 5) 240 [.ref m, g_n c, g_n p, g_n (p + x.length)] M (g_qI Q) := by
  have z1 := h.st
  have hl : ∀ (es : List b_E) (q : Int), e_tl (g_i M b) c q D es0 es → Q (L_opt (L_find x (L_at q es))) M → g_Run (d + 4) 240 6 [(0, .ref m), (1, g_n c), (2, g_n p), (3, g_n (p + x.length)), (4, g_n q)] [] M (g_qI Q) := by
    intro es
    induction es with
    | nil =>
      intro q ht hq
      have z2 := ht.st
      exact s_X12_find_6 ⟨by omega, by omega⟩ ⟨by omega, by omega⟩ ⟨by omega, by omega⟩ ⟨by omega, by omega⟩ fun _ => ⟨hR.1, e_lastE hR ht fun _ _ _ => ⟨fun g => absurd g (by omega), fun _ => hq⟩⟩
    | cons e es ih =>
      intro q ht hq
      have z2 := ht.st
      obtain ⟨h5, h6⟩ := ht.cons
      have z3 := h6.st
      have hlen := b_el_len e.1 e.2.1 e.2.2
      have hq : Q (L_opt (if e.2.1 = x then some (q, e) else L_find x (L_at (q + (b_el e.1 e.2.1 e.2.2).length) es))) M := hq
      refine s_X12_find_6 ⟨by omega, by omega⟩ ⟨by omega, by omega⟩ ⟨by omega, by omega⟩ ⟨by omega, by omega⟩ fun _ => ⟨hR.1, e_lastC hR ht fun r hr _ _ _ _ => ⟨fun _ => ⟨⟨by omega, by omega⟩, e_nm2 hR h5 fun _ _ _ => e_same hR (b_el_at h5.1).2.1 hx (by omega) (by omega) h0 h1 fun _ _ _ => ⟨fun g => e_bh2 hR h5 fun _ _ _ => ?_, fun g => ?_⟩⟩, fun g => absurd hr g⟩⟩
      · have g2 : ¬ e.2.1 = x := fun g2 => by
          rw [if_pos g2] at g
          omega
        rw [if_neg g2] at hq
        exact ih _ h6 hq
      · have g2 : e.2.1 = x := Decidable.byContradiction fun g2 => by
          rw [if_neg g2] at g
          omega
        rw [if_pos g2] at hq
        exact hq
  exact m_X12_find ⟨by omega, by omega⟩ ⟨by omega, by omega⟩ ⟨by omega, by omega⟩ fun _ => e_first (by omega) (by omega) fun _ _ _ => hl es0 _ h hQ
theorem e_countE (hR : e_R M m b) (h : e_tl (g_i M b) c (c + 4) D es0 es0) (hQ : Q es0.length M) : g_Call (d + 5) 239 [.ref m, g_n c] M (g_qI Q) := by
  have z1 := h.st
  have hl : ∀ (es : List b_E) (q : Int) (i : Nat), e_tl (g_i M b) c q D es0 es → i ≤ q → Q ((i + es.length : Nat) : Int) M → g_Run (d + 4) 239 7 [(0, .ref m), (1, g_n c), (2, g_n i), (3, g_n q)] [] M (g_qI Q) := by
    intro es
    induction es with
    | nil =>
      intro q i ht hi hq
      have z2 := ht.st
      exact s_X12_count_7 ⟨by omega, by omega⟩ ⟨by omega, by omega⟩ ⟨by omega, by omega⟩ fun _ => ⟨hR.1, e_lastE hR ht fun _ _ _ => ⟨fun g => absurd g (by omega), fun _ => hq⟩⟩
    | cons e es ih =>
      intro q i ht hi hq
      have z2 := ht.st
      obtain ⟨h5, h6⟩ := ht.cons
      have z3 := h6.st
      have hlen := b_el_len e.1 e.2.1 e.2.2
      refine s_X12_count_7 ⟨by omega, by omega⟩ ⟨by omega, by omega⟩ ⟨by omega, by omega⟩ fun _ => ⟨hR.1, e_lastC hR ht fun r hr _ _ _ _ => ⟨fun _ => ⟨⟨by omega, by omega⟩, e_bh2 hR h5 fun _ _ _ => ?_⟩, fun g => absurd hr g⟩⟩
      have h8 := ih _ (i + 1) h6 (by omega) (by rw [List.length_cons] at hq; rwa [show i + 1 + es.length = i + (es.length + 1) by omega])
      rwa [show ((i + 1 : Nat) : Int) = (i : Int) + 1 by omega] at h8
  exact m_X12_count ⟨by omega, by omega⟩ fun _ => e_first (by omega) (by omega) fun _ _ _ => hl es0 _ 0 h (by omega) (by rwa [Nat.zero_add])
theorem e_itemE {k : Int} (hR : e_R M m b) (h : e_tl (g_i M b) c (c + 4) D es0 es0) (hk : 0 ≤ k) (hk2 : g_InR k) (hQ : Q (L_opt ((L_at (c + 4) es0)[k.toNat]?)) M) : g_Call (d + 5) 241 [.ref m, g_n c, g_n k] M (g_qI Q) := by
  have z1 := h.st
  have hl : ∀ (es : List b_E) (q : Int) (i : Nat), e_tl (g_i M b) c q D es0 es → (i : Int) ≤ k → Q (L_opt ((L_at q es)[(k - i).toNat]?)) M → g_Run (d + 4) 241 8 [(0, .ref m), (1, g_n c), (2, g_n k), (3, g_n q), (4, g_n i)] [] M (g_qI Q) := by
    intro es
    induction es with
    | nil =>
      intro q i ht hi hq
      have z2 := ht.st
      have hq : Q (-1) M := hq
      exact s_X12_item_8 ⟨by omega, by omega⟩ hk2 ⟨by omega, by omega⟩ ⟨by omega, by have := hk2.2; omega⟩ fun _ => ⟨fun _ => ⟨hR.1, e_lastE hR ht fun _ _ _ => ⟨fun g => absurd g (by omega), fun _ => e_lastE hR ht fun _ _ _ => ⟨fun g => absurd g (by omega), fun _ => hq⟩⟩⟩, fun _ => ⟨hR.1, e_lastE hR ht fun _ _ _ => ⟨fun g => absurd g (by omega), fun _ => hq⟩⟩⟩
    | cons e es ih =>
      intro q i ht hi hq
      have z2 := ht.st
      obtain ⟨h5, h6⟩ := ht.cons
      have z3 := h6.st
      have hk3 := hk2.2
      refine s_X12_item_8 ⟨by omega, by omega⟩ hk2 ⟨by omega, by omega⟩ ⟨by omega, by omega⟩ fun _ => ⟨fun g => ⟨hR.1, e_lastC hR ht fun r hr _ _ _ _ => ⟨fun _ => e_bh2 hR h5 fun _ _ _ => ⟨⟨by omega, by omega⟩, ?_⟩, fun g => absurd hr g⟩⟩, fun g => ⟨hR.1, e_lastC hR ht fun r hr _ _ _ _ => ⟨fun _ => ?_, fun g => absurd hr g⟩⟩⟩
      · have h8 := ih _ (i + 1) h6 (by omega) (by
          rw [show (k - i).toNat = (k - ((i + 1 : Nat) : Int)).toNat + 1 by omega] at hq
          exact hq)
        rwa [show ((i + 1 : Nat) : Int) = (i : Int) + 1 by omega] at h8
      · rw [show (k - i).toNat = 0 by omega] at hq
        exact hq
  exact m_X12_item ⟨by omega, by omega⟩ hk2 fun _ => e_first (by omega) (by omega) fun _ _ _ => hl es0 _ 0 h hk (by rwa [show k - ((0 : Nat) : Int) = k by omega])
end FINDE
