/-! INDEX: which values of a document are its keys; how many different ones there are at most -/
/-- of a leaf its items, if it is a row -/
noncomputable def I_cd : Option (Int × b_E) → List (Option (Int × b_E))
  | none => [none]
  | some z => if z.2.1 = 4 then (if L_ch z.1 z.2 = [] then [none] else (L_ch z.1 z.2).map some) else [some z]
noncomputable def I_cs (ls : List (Option (Int × b_E))) : List (Option (Int × b_E)) := if ls = [] then [none] else ls.flatMap I_cd
noncomputable def I_cdv : Option b_E → List (Option b_E)
  | none => [none]
  | some e => if e.1 = 4 then (if b_ch e.2.2 = [] then [none] else (b_ch e.2.2).map some) else [some e]
noncomputable def I_csv (ls : List (Option b_E)) : List (Option b_E) := if ls = [] then [none] else ls.flatMap I_cdv
theorem I_cd_v (y : Option (Int × b_E)) : (I_cd y).map L_nop = I_cdv (L_nop y) := by
  rcases y with _ | ⟨q, e⟩
  · rfl
  · show (if e.1 = 4 then (if L_ch q e = [] then [none] else (L_ch q e).map some) else [some (q, e)] : List (Option (Int × b_E))).map L_nop = if e.1 = 4 then (if b_ch e.2.2 = [] then [none] else (b_ch e.2.2).map some) else [some e]
    have h1 : (L_ch q e).map Prod.snd = b_ch e.2.2 := L_at_snd _ _
    by_cases h : e.1 = 4
    · rw [if_pos h, if_pos h]
      by_cases h2 : L_ch q e = []
      · rw [if_pos h2, if_pos (by rw [← h1, h2]; rfl)]
        rfl
      · rw [if_neg h2, if_neg (by rw [← h1]; exact fun z => h2 (List.map_eq_nil_iff.mp z)), ← h1, List.map_map, List.map_map]
        rfl
    · rw [if_neg h, if_neg h]
      rfl
theorem I_cs_v (ls : List (Option (Int × b_E))) : (I_cs ls).map L_nop = I_csv (ls.map L_nop) := by
  unfold I_cs I_csv
  by_cases h : ls = []
  · subst h
    rfl
  · rw [if_neg h, if_neg (fun z => h (List.map_eq_nil_iff.mp z)), List.map_flatMap, List.flatMap_map]
    congr 1
    funext y
    exact I_cd_v y
theorem I_cs_ne (ls : List (Option (Int × b_E))) : I_cs ls ≠ [] := by
  unfold I_cs
  split
  · exact List.cons_ne_nil _ _
  · rename_i h
    obtain ⟨y, r, rfl⟩ := List.exists_cons_of_ne_nil h
    rw [List.flatMap_cons]
    refine fun z => ?_
    have := (List.append_eq_nil_iff.mp z).1
    revert this
    rcases y with _ | y
    · exact List.cons_ne_nil _ _
    · show (if y.2.1 = 4 then (if L_ch y.1 y.2 = [] then [none] else (L_ch y.1 y.2).map some) else [some y] : List (Option (Int × b_E))) ≠ []
      split
      · split
        · exact List.cons_ne_nil _ _
        · rename_i h2
          exact fun z => h2 (List.map_eq_nil_iff.mp z)
      · exact List.cons_ne_nil _ _
/-- all that stands in an element, itself too -/
noncomputable def N_a : Nat → Int → b_E → List (Int × b_E)
  | 0, o, e => [(o, e)]
  | D + 1, o, e => (o, e) :: (if e.1 = 3 ∨ e.1 = 4 then (L_ch o e).flatMap (fun z => N_a D z.1 z.2) else [])
theorem N_a_self (D : Nat) (o : Int) (e : b_E) : (o, e) ∈ N_a D o e := by
  cases D
  · exact List.mem_singleton.mpr rfl
  · exact List.mem_cons_self
theorem N_a_in {D : Nat} {o : Int} {e : b_E} (hk : e.1 = 3 ∨ e.1 = 4) {z : Int × b_E} (hz : z ∈ L_ch o e) {y : Int × b_E} (hy : y ∈ N_a D z.1 z.2) : y ∈ N_a (D + 1) o e := by
  refine List.mem_cons_of_mem _ ?_
  rw [if_pos hk]
  exact List.mem_flatMap.mpr ⟨z, hz, hy⟩
def N_no (z : Int × b_E) : Bool := z.2.1 != 10
theorem N_a_len : ∀ (D : Nat) {o : Int} {e : b_E}, b_gv D e.1 e.2.2 → 3 * ((N_a D o e).filter N_no).length ≤ (b_el e.1 e.2.1 e.2.2).length := by
  have hlf : ∀ (o : Int) (e : b_E), b_lf e.1 e.2.2 → 3 * (([(o, e)] : List (Int × b_E)).filter N_no).length ≤ (b_el e.1 e.2.1 e.2.2).length := by
    intro o e h
    by_cases h10 : e.1 = 10
    · rw [List.filter_cons_of_neg (by show ¬ (e.1 != 10) = true; rw [h10]; decide)]
      exact Nat.zero_le _
    · have h1 := List.length_filter_le N_no [(o, e)]
      rw [List.length_singleton] at h1
      rw [b_el_len]
      have h2 : 1 ≤ e.2.2.length := by
        rcases h with h | h | ⟨-, h⟩ | ⟨h, -⟩ | ⟨-, s, h, -⟩
        · omega
        · omega
        · rcases h with h | h <;> rw [h] <;> decide
        · exact absurd h h10
        · rw [h, List.length_append, List.length_append]
          have : ([0] : List Int).length = 1 := rfl
          omega
      omega
  intro D
  induction D with
  | zero => exact fun {o} {e} h => hlf o e h
  | succ D ih =>
    intro o e h
    by_cases hk : e.1 = 3 ∨ e.1 = 4
    · obtain ⟨D1, es, e1, e2, -, -, e5, -, e7⟩ := b_gv_doc h hk
      obtain rfl : D = D1 := by omega
      have hch : L_ch o e = L_at (o + 6 + e.2.1.length) es := by
        show L_at _ (b_ch e.2.2) = _
        rw [e7]
      have hs : ∀ (fs : List b_E) (q : Int), (∀ f ∈ fs, f ∈ es) → 3 * (((L_at q fs).flatMap (fun z => N_a D z.1 z.2)).filter N_no).length ≤ (b_ser fs).length := by
        intro fs
        induction fs with
        | nil => exact fun _ _ => Nat.zero_le _
        | cons f fs ihf =>
          intro q hf
          have k1 := ih (o := q) (e5 f (hf f List.mem_cons_self)).2
          have k2 := ihf (q + (b_el f.1 f.2.1 f.2.2).length) fun x hx => hf x (List.mem_cons_of_mem _ hx)
          show 3 * (((((q, f) : Int × b_E) :: L_at (q + _) fs).flatMap (fun z => N_a D z.1 z.2)).filter N_no).length ≤ _
          rw [List.flatMap_cons, List.filter_append, List.length_append, b_ser_len]
          show 3 * (((N_a D q f).filter N_no).length + _) ≤ _
          omega
      have h9 := hs es (o + 6 + e.2.1.length) fun _ h => h
      show 3 * (((o, e) :: (if e.1 = 3 ∨ e.1 = 4 then (L_ch o e).flatMap (fun z => N_a D z.1 z.2) else [])).filter N_no).length ≤ _
      rw [if_pos hk, hch, b_el_len, e2, b_doc_len, List.filter_cons_of_pos (by show (e.1 != 10) = true; rcases hk with hk | hk <;> rw [hk] <;> decide), List.length_cons]
      omega
    · show 3 * (((o, e) :: (if e.1 = 3 ∨ e.1 = 4 then (L_ch o e).flatMap (fun z => N_a D z.1 z.2) else [])).filter N_no).length ≤ _
      rw [if_neg hk]
      rcases h with h | h
      · exact hlf o e h
      · exact absurd h.1 hk
theorem N_a_go : ∀ (D : Nat) {o : Int} {e : b_E} {st : List (List Int)}, ∀ y, some y ∈ L_go D o e st → y ∈ N_a D o e := by
  intro D
  induction D with
  | zero =>
    intro o e st y hy
    rcases st with _ | ⟨s, r⟩
    · rw [L_go_nil] at hy
      cases List.mem_singleton.mp hy
      exact List.mem_singleton.mpr rfl
    · exact absurd (List.mem_singleton.mp hy) (by simp)
  | succ D ih =>
    intro o e st y hy
    rcases st with _ | ⟨s, r⟩
    · rw [L_go_nil] at hy
      cases List.mem_singleton.mp hy
      exact N_a_self _ _ _
    · by_cases hk : e.1 = 3 ∨ e.1 = 4
      · have key : ∀ (z : Int × b_E) (r : List (List Int)), z ∈ L_ch o e → some y ∈ L_go D z.1 z.2 r → y ∈ N_a (D + 1) o e := fun z r hz hy => N_a_in hk hz (ih y hy)
        rcases hk with hk | hk
        · rw [L_go3 hk] at hy
          rcases hf : L_find s (L_ch o e) with _ | z
          · rw [hf] at hy
            exact absurd (List.mem_singleton.mp hy) (by simp)
          · rw [hf] at hy
            exact key z r (L_find_mem hf).1 hy
        · rw [L_go4 hk, List.mem_append] at hy
          rcases hy with hy | hy
          · rcases hf : L_find s (L_ch o e) with _ | z
            · rw [hf] at hy
              exact absurd hy (by simp)
            · rw [hf] at hy
              exact key z r (L_find_mem hf).1 hy
          · obtain ⟨z, hz, hy⟩ := List.mem_flatMap.mp hy
            split at hy
            · exact key z _ hz hy
            · exact absurd hy (by simp)
      · rw [L_gox (fun g => hk (Or.inl g)) (fun g => hk (Or.inr g))] at hy
        exact absurd (List.mem_singleton.mp hy) (by simp)
theorem N_a_ch : ∀ (D : Nat) {o : Int} {e : b_E}, b_gv D e.1 e.2.2 → ∀ y ∈ N_a D o e, ∀ z ∈ L_ch y.1 y.2, y.2.1 = 4 → z ∈ N_a D o e := by
  intro D
  induction D with
  | zero =>
    intro o e h y hy z _ h4
    rw [List.mem_singleton.mp hy] at h4
    obtain ⟨_, _, e1, _⟩ := b_gv_doc h (Or.inr h4)
    omega
  | succ D ih =>
    intro o e h y hy z hz h4
    rcases List.mem_cons.mp hy with hy | hy
    · subst hy
      exact N_a_in (Or.inr h4) hz (N_a_self _ _ _)
    · by_cases hk : e.1 = 3 ∨ e.1 = 4
      · rw [if_pos hk] at hy
        obtain ⟨x, hx, hy⟩ := List.mem_flatMap.mp hy
        obtain ⟨D1, es, e1, e2, -, -, e5, -, e7⟩ := b_gv_doc h hk
        obtain rfl : D = D1 := by omega
        have hx2 : x.2 ∈ es := by
          have h9 : (L_ch o e).map Prod.snd = es := (L_at_snd _ _).trans e7
          rw [← h9]
          exact List.mem_map.mpr ⟨x, hx, rfl⟩
        exact N_a_in hk hx (ih (e5 x.2 hx2).2 y hy z hz h4)
      · rw [if_neg hk] at hy
        exact absurd hy (by simp)
/-- a candidate stands in the document, or is none -/
theorem I_cs_a {D : Nat} {o : Int} {e : b_E} {st : List (List Int)} (h : b_gv D e.1 e.2.2) : ∀ y, some y ∈ I_cs (L_go D o e st) → y ∈ N_a D o e := by
  intro y hy
  unfold I_cs at hy
  split at hy
  · exact absurd (List.mem_singleton.mp hy) (by simp)
  · obtain ⟨u, hu, hy⟩ := List.mem_flatMap.mp hy
    rcases u with _ | u
    · exact absurd (List.mem_singleton.mp hy) (by simp)
    · have h1 := N_a_go D u hu
      change some y ∈ (if u.2.1 = 4 then (if L_ch u.1 u.2 = [] then [none] else (L_ch u.1 u.2).map some) else [some u] : List (Option (Int × b_E))) at hy
      split at hy
      · rename_i h4
        split at hy
        · exact absurd (List.mem_singleton.mp hy) (by simp)
        · obtain ⟨x, hx, hxy⟩ := List.mem_map.mp hy
          cases hxy
          exact N_a_ch D h u h1 y hx h4
      · cases List.mem_singleton.mp hy
        exact h1
theorem I_nd_le {α : Type} : ∀ {l m : List α}, l.Nodup → (∀ x ∈ l, x ∈ m) → l.length ≤ m.length := by
  intro l
  induction l with
  | nil => exact fun _ _ => Nat.zero_le _
  | cons a l ih =>
    intro m h1 h2
    obtain ⟨u, v, rfl⟩ := List.append_of_mem (h2 a List.mem_cons_self)
    have h3 := ih (m := u ++ v) (List.nodup_cons.mp h1).2 fun x hx => by
      have h4 := h2 x (List.mem_cons_of_mem _ hx)
      rw [List.mem_append, List.mem_cons] at h4
      rw [List.mem_append]
      rcases h4 with h4 | h4 | h4
      · exact Or.inl h4
      · subst h4
        exact absurd hx (List.nodup_cons.mp h1).1
      · exact Or.inr h4
    rw [List.length_append] at h3
    rw [List.length_append, List.length_cons, List.length_cons]
    omega
/-- the key of a placed value -/
def I_ko : Option (Int × b_E) → I_K
  | none => (10, [])
  | some z => (z.2.1, z.2.2.2)
def I_kv : Option b_E → I_K
  | none => (10, [])
  | some e => (e.1, e.2.2)
theorem I_ko_v (y : Option (Int × b_E)) : I_ko y = I_kv (L_nop y) := by rcases y with _ | y <;> rfl
theorem b_gv_lf10 {D : Nat} {vb : List Int} (h : b_gv D 10 vb) : vb = [] := by
  have h1 : b_lf 10 vb := by
    cases D with
    | zero => exact h
    | succ D =>
      rcases h with h | ⟨h, -⟩
      · exact h
      · omega
  rcases h1 with ⟨h, -⟩ | ⟨h, -⟩ | ⟨h, -⟩ | ⟨-, h⟩ | ⟨h, -⟩
  · omega
  · omega
  · omega
  · exact h
  · omega
/-- different keys of a document are few -/
theorem I_few {D : Nat} {o : Int} {e : b_E} {st : List (List Int)} {w : Int} {K : List (Option (Int × b_E))} (hw : I_w w) (h : b_gv D e.1 e.2.2) (hst : ∀ y, some y ∈ I_cs (L_go D o e st) → ∃ D2, b_gv D2 y.2.1 y.2.2.2) (hl : (b_el e.1 e.2.1 e.2.2).length ≤ 2090) (hp : K.Pairwise (fun a b => 0 < I_kc w (I_ko a) (I_ko b))) (hK : ∀ y ∈ K, y ∈ I_cs (L_go D o e st)) : K.length ≤ 698 := by
  have hT := I_kc_T hw
  have hlen := N_a_len D (o := o) h
  obtain ⟨f, hf⟩ : ∃ f : Option (Int × b_E) → Bool, f = fun y => (I_ko y).1 != 10 := ⟨_, rfl⟩
  have hf' : ∀ y, f y = ((I_ko y).1 != 10) := fun y => by rw [hf]
  have h1 : (K.filter f).length ≤ ((N_a D o e).filter N_no).length := by
    have h2 : (K.filter f).Nodup := (hp.filter f).imp fun {a b} g z => by
      rw [z, hT.rf] at g
      omega
    have h3 := I_nd_le (m := ((N_a D o e).filter N_no).map some) h2 fun y hy => by
      obtain ⟨g1, g2⟩ := List.mem_filter.mp hy
      rw [hf'] at g2
      rcases y with _ | y
      · exact absurd g2 (by decide)
      · exact List.mem_map.mpr ⟨y, List.mem_filter.mpr ⟨I_cs_a h y (hK _ g1), g2⟩, rfl⟩
    rwa [List.length_map] at h3
  have h4 : (K.filter (fun y => !f y)).length ≤ 1 := by
    have h5 := hp.filter (fun y => !f y)
    have h6 : ∀ y ∈ K.filter (fun y => !f y), I_ko y = (10, []) := by
      intro y hy
      obtain ⟨g1, g2⟩ := List.mem_filter.mp hy
      rw [hf'] at g2
      rcases y with _ | y
      · rfl
      · have g3 : y.2.1 = 10 := by
          change (!(y.2.1 != 10)) = true at g2
          simpa using g2
        obtain ⟨D2, g4⟩ := hst y (hK _ g1)
        have g5 : y.2.2.2 = [] := by
          rw [g3] at g4
          have g6 := b_gv_lf10 g4
          exact g6
        show (y.2.1, y.2.2.2) = _
        rw [g3, g5]
    generalize K.filter (fun y => !f y) = U at h5 h6
    rcases U with _ | ⟨a, _ | ⟨b, U⟩⟩
    · exact Nat.zero_le _
    · exact Nat.le_refl _
    · have h7 := (List.pairwise_cons.mp h5).1 b List.mem_cons_self
      rw [h6 a List.mem_cons_self, h6 b (List.mem_cons_of_mem _ List.mem_cons_self), hT.rf] at h7
      omega
  have h8 : K.length = (K.filter f).length + (K.filter (fun y => !f y)).length := by
    rw [← List.length_append]
    exact (List.filter_append_perm f K).length_eq.symm
  omega
