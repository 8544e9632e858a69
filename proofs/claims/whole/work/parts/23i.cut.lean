/-! TREES OF THE CLASS: a node is split -/
def V_f (h : Nat) : Int := if h = 0 then 1 else 0
def V_m : (h : Nat) → List (N_i V_W h) → List Nat
  | 0, _ => []
  | h + 1, l => V_ts h l
def V_nk : (h : Nat) → List (N_i V_W h) → List Nat
  | 0, _ => []
  | h + 1, l => List.flatMap (fun x : N_i V_W (h + 1) => V_ns h (V_n x.1) x.2) l
theorem V_ns_e (h n : Nat) (l : List (N_i V_W h)) : V_ns h n l = n :: V_nk h l := by cases h <;> rfl
theorem V_m_len (h : Nat) (l : List (N_i V_W h)) : (V_m h l).length ≤ l.length := by
  cases h with
  | zero => exact Nat.zero_le _
  | succ h =>
    show (V_ts h l).length ≤ _
    rw [V_ts_len]
    omega
theorem C_D.no {S : B_S} {h n : Nat} {l : List (N_i V_W h)} (hD : C_D S h n l) : B_no S n (V_f h) (l.map (V_k h)) (V_m h l) ∧ l.length ≤ 9 := by
  cases h with
  | zero => exact ⟨hD.1, hD.2.1⟩
  | succ h => exact ⟨hD.1, hD.2.1⟩
theorem V_us_sub {h : Nat} {l l' : List (N_i V_W h)} (hm : ∀ x ∈ l', x ∈ l) (hmt : ∀ x ∈ l'.tail, x ∈ l.tail) : ∀ s ∈ V_us h l', s ∈ V_us h l := by
  intro s hs
  cases h with
  | zero =>
    obtain ⟨x, hx, rfl⟩ := List.mem_map.mp hs
    exact List.mem_map.mpr ⟨x, hm x hx, rfl⟩
  | succ h =>
    rcases List.mem_append.mp hs with z | z
    · obtain ⟨x, hx, rfl⟩ := List.mem_map.mp z
      exact List.mem_append_left _ (List.mem_map.mpr ⟨x, hmt x hx, rfl⟩)
    · obtain ⟨x, hx, hz⟩ := List.mem_flatMap.mp z
      exact List.mem_append_right _ (List.mem_flatMap.mpr ⟨x, hm x hx, hz⟩)
/-- a node is made anew of items of another one -/
theorem C_D.re {A : Nat → Int → Prop} {G : Int → Prop} {S S1 : B_S} {N U : Int} {h n n' : Nat} {l l' : List (N_i V_W h)} (hD : C_D S h n l) (hN : B_ln S N) (hU : B_us S U) (h1 : ∀ m ∈ V_nk h l, (m : Int) < N) (h2 : ∀ s ∈ V_us h l, (s : Int) < U) (g : B_ag A G S S1) (hno : B_no S1 n' (V_f h) (l'.map (V_k h)) (V_m h l')) (hl : l'.length ≤ 9) (hm : ∀ x ∈ l', x ∈ l) (hmt : ∀ x ∈ l'.tail, x ∈ l.tail) (h3 : ∀ m ∈ V_nk h l, B_nav A m) (h4 : ∀ s ∈ V_us h l, B_sav A s) : C_D S1 h n' l' := by
  cases h with
  | zero =>
    obtain ⟨d1, d2, d3⟩ := C_D_0.mp hD
    refine C_D_0.mpr ⟨hno, hl, fun x hx => ?_⟩
    have hmm : V_k 0 x ∈ V_us 0 l := List.mem_map.mpr ⟨x, hm x hx, rfl⟩
    exact (d3 x (hm x hx)).ag hU (h2 _ hmm) g (h4 _ hmm)
  | succ h =>
    obtain ⟨d1, d2, d3, d4⟩ := C_D_s.mp hD
    refine C_D_s.mpr ⟨hno, hl, fun x hx => ?_, fun x hx => ?_⟩
    · have hmm : V_s x.1 ∈ V_us (h + 1) l := List.mem_append_left _ (List.mem_map.mpr ⟨x, hmt x hx, rfl⟩)
      exact (d3 x (hmt x hx)).ag hU (h2 _ hmm) g (h4 _ hmm)
    · have hm1 : ∀ m ∈ V_ns h (V_n x.1) x.2, m ∈ V_nk (h + 1) l := fun m hm2 => List.mem_flatMap.mpr ⟨x, hm x hx, hm2⟩
      have hm2 : ∀ s ∈ V_us h x.2, s ∈ V_us (h + 1) l := fun s hs => List.mem_append_right _ (List.mem_flatMap.mpr ⟨x, hm x hx, hs⟩)
      exact (d4 x (hm x hx)).ag hN hU (fun m hm => h1 m (hm1 m hm)) (fun s hs => h2 s (hm2 s hs)) g (fun m hm => h3 m (hm1 m hm)) fun s hs => h4 s (hm2 s hs)
/-- all places but those of some nodes and slots, and of the way -/
def V_A (ns us : List Nat) (k : Nat) (q : Int) : Prop := k ≠ 10 ∧ k ≠ 11 ∧ (∀ m ∈ ns, ¬ ((k = 4 ∨ k = 5) ∧ 9 * (m : Int) ≤ q ∧ q < 9 * m + 9) ∧ ¬ ((k = 6 ∨ k = 7) ∧ q = m)) ∧ ∀ s ∈ us, ¬ (k = 0 ∧ 132 * (s : Int) ≤ q ∧ q < 132 * s + 132) ∧ ¬ (k = 1 ∧ q = s)
theorem V_A.nav {ns us : List Nat} {m : Nat} (h : m ∈ ns) : B_nav (V_A ns us) m := ⟨fun q q1 q2 => ⟨fun z => (z.2.2.1 m h).1 ⟨Or.inl rfl, q1, q2⟩, fun z => (z.2.2.1 m h).1 ⟨Or.inr rfl, q1, q2⟩⟩, fun z => (z.2.2.1 m h).2 ⟨Or.inl rfl, rfl⟩, fun z => (z.2.2.1 m h).2 ⟨Or.inr rfl, rfl⟩⟩
theorem V_A.sav {ns us : List Nat} {s : Nat} (h : s ∈ us) : B_sav (V_A ns us) s := ⟨fun q q1 q2 z => (z.2.2.2 s h).1 ⟨rfl, q1, q2⟩, fun z => (z.2.2.2 s h).2 ⟨rfl, rfl⟩⟩
theorem V_A.of {ns us : List Nat} {A : Nat → Int → Prop} (h1 : ∀ m ∈ ns, B_nav A m) (h2 : ∀ s ∈ us, B_sav A s) (h3 : ∀ q, ¬ A 10 q ∧ ¬ A 11 q) : ∀ k q, A k q → V_A ns us k q := by
  intro k q hA
  refine ⟨fun z => ?_, fun z => ?_, fun m hm => ⟨fun z => ?_, fun z => ?_⟩, fun s hs => ⟨fun z => ?_, fun z => ?_⟩⟩
  · subst z
    exact (h3 q).1 hA
  · subst z
    exact (h3 q).2 hA
  · obtain ⟨a1, a2, a3⟩ := h1 m hm
    obtain ⟨z1, z2, z3⟩ := z
    rcases z1 with z1 | z1
    · subst z1
      exact (a1 q z2 z3).1 hA
    · subst z1
      exact (a1 q z2 z3).2 hA
  · obtain ⟨a1, a2, a3⟩ := h1 m hm
    obtain ⟨z1, z2⟩ := z
    subst z2
    rcases z1 with z1 | z1
    · subst z1
      exact a2 hA
    · subst z1
      exact a3 hA
  · obtain ⟨z1, z2, z3⟩ := z
    subst z1
    exact (h2 s hs).1 q z2 z3 hA
  · obtain ⟨z1, z2⟩ := z
    subst z1
    subst z2
    exact (h2 s hs).2 hA
theorem V_A.sub {ns us ns2 us2 : List Nat} (h1 : ∀ m ∈ ns2, m ∈ ns) (h2 : ∀ s ∈ us2, s ∈ us) : ∀ k q, V_A ns us k q → V_A ns2 us2 k q := fun k q h => ⟨h.1, h.2.1, fun m hm => h.2.2.1 m (h1 m hm), fun s hs => h.2.2.2 s (h2 s hs)⟩
def V_G4 (k : Int) : Prop := k = 3 ∨ k = 9 ∨ k = 16 ∨ k = 17
theorem b_at_pre2 {B : Int → Int} {p : Int} {x y : List Int} (h : b_at B p (x ++ y)) : b_at B p x := (b_app.mp h).1
theorem V_ts_take (h : Nat) (l : List (N_i V_W (h + 1))) : V_ts h (l.take 4) = (V_ts h l).take 3 := by
  unfold V_ts
  cases l with
  | nil => rfl
  | cons x r =>
    show (List.take 3 r).map _ = (r.map _).take 3
    exact List.map_take
theorem V_ts_drop (h : Nat) (l : List (N_i V_W (h + 1))) : V_ts h (l.drop 4) = (V_ts h l).drop 4 := by
  unfold V_ts
  rw [List.tail_drop, ← List.map_drop, List.drop_tail]
/-- the slots of a node's two halves and of the mark between -/
theorem V_us_cut {h : Nat} {l : List (N_i V_W (h + 1))} {y : N_i V_W (h + 1)} {r : List (N_i V_W (h + 1))} (hd : l.drop 4 = y :: r) : (V_us (h + 1) l).Perm (V_s y.1 :: (V_us (h + 1) (l.take 4) ++ V_us (h + 1) (l.drop 4))) := by
  have hl : l = l.take 4 ++ y :: r := by rw [← hd, List.take_append_drop]
  have hne : l.take 4 ≠ [] := fun z => by
    have h1 := congrArg List.length hd
    have h2 := congrArg List.length z
    rw [List.length_drop, List.length_cons] at h1
    rw [List.length_take, List.length_nil] at h2
    omega
  obtain ⟨T, hT⟩ : ∃ T, T = l.take 4 := ⟨_, rfl⟩
  rw [hd]
  rw [← hT] at hl hne ⊢
  subst hl
  cases T with
  | nil => exact absurd rfl hne
  | cons a T =>
    rw [V_us_s, V_us_s, V_us_s]
    have e1 : V_ts h (a :: T ++ y :: r) = V_ts h (a :: T) ++ V_s y.1 :: V_ts h (y :: r) := by
      unfold V_ts
      show (T ++ y :: r).map _ = T.map _ ++ V_s y.1 :: r.map _
      rw [List.map_append, List.map_cons]
    rw [e1, List.flatMap_append, List.append_assoc, List.cons_append, List.append_assoc]
    refine List.perm_middle.trans (List.Perm.cons _ ?_)
    refine List.Perm.append_left _ ?_
    rw [← List.append_assoc, ← List.append_assoc]
    exact List.Perm.append_right _ List.perm_append_comm
theorem V_us0_cut (l : List (N_i V_W 0)) : V_us 0 l = V_us 0 (l.take 4) ++ V_us 0 (l.drop 4) := by
  rw [V_us_0, V_us_0, V_us_0, ← List.map_append, List.take_append_drop]
theorem V_nk_cut (h : Nat) (l : List (N_i V_W h)) : V_nk h l = V_nk h (l.take 4) ++ V_nk h (l.drop 4) := by
  cases h with
  | zero => rfl
  | succ h =>
    show l.flatMap _ = (l.take 4).flatMap _ ++ (l.drop 4).flatMap _
    rw [← List.flatMap_append, List.take_append_drop]
