/-! TREES OF THE CLASS: two neighbours are made anew -/
/-- the first item of a node gets a mark -/
def V_hd : (h : Nat) → V_W → List (N_i V_W h) → List (N_i V_W h)
  | 0, _, l => l
  | _ + 1, _, [] => []
  | h + 1, m, z :: r => N_mk h ((V_s m, V_n z.1), V_e m) z.2 :: r
theorem V_hd_er : ∀ (h : Nat) (m : V_W) (l : List (N_i V_W h)), (V_hd h m l).map (V_er h) = N_hd h (V_e m) (l.map (V_er h)) := by
  intro h m l
  cases h with
  | zero => cases l <;> rfl
  | succ h => cases l <;> rfl
theorem V_hd_k : ∀ (h : Nat) (m : V_W) (l : List (N_i V_W h)), (V_hd h m l).map (V_k h) = l.map (V_k h) := by
  intro h m l
  cases h with
  | zero => rfl
  | succ h => cases l <;> rfl
theorem V_hd_len (h : Nat) (m : V_W) (l : List (N_i V_W h)) : (V_hd h m l).length = l.length := by
  have := congrArg List.length (V_hd_k h m l)
  rwa [List.length_map, List.length_map] at this
theorem V_hd_nk : ∀ (h : Nat) (m : V_W) (l : List (N_i V_W h)), V_nk h (V_hd h m l) = V_nk h l := by
  intro h m l
  cases h with
  | zero => rfl
  | succ h => cases l <;> rfl
theorem V_hd_ins : ∀ (h : Nat) (m : V_W) (l : List (N_i V_W h)), N_ins h (V_hd h m l) = N_ins h l := by
  intro h m l
  cases h with
  | zero => rfl
  | succ h => cases l <;> rfl
theorem V_hd_lv : ∀ (h : Nat) (m : V_W) (l : List (N_i V_W h)), N_lv h (V_hd h m l) = N_lv h l := by
  intro h m l
  cases h with
  | zero => rfl
  | succ h => cases l <;> rfl
theorem V_ns_s2 (h n : Nat) (l : List (N_i V_W h)) : V_ns h n l = n :: V_nk h l := V_ns_e h n l
/-- two neighbours under a node become others -/
theorem C_D.nb {S S1 : B_S} {A2 : Nat → Int → Prop} {G : Int → Prop} {N U : Int} {h n : Nat} {A B T : List (N_i V_W (h + 1))} {u v y : N_i V_W (h + 1)} (hD : C_D S (h + 1) n (A ++ u :: v :: B)) (hN : B_ln S N) (hU : B_us S U) (h1 : ∀ m, m ∈ V_nk (h + 1) A ∨ m ∈ V_nk (h + 1) B → (m : Int) < N ∧ B_nav A2 m) (h2 : ∀ s, s ∈ V_ts h (A ++ [u]) ∨ s ∈ B.map (fun z => V_s z.1) ∨ s ∈ V_uk h A ∨ s ∈ V_uk h B → (s : Int) < U ∧ B_sav A2 s) (g : B_ag A2 G S S1) (hno : B_no S1 n 0 ((A ++ (y :: T ++ B)).map (V_k (h + 1))) (V_ts h (A ++ (y :: T ++ B)))) (hy : y.1 = u.1) (hl : (A ++ (y :: T ++ B)).length ≤ 9) (hT : ∀ z ∈ T, B_eg S1 (V_s z.1) (V_e z.1)) (hC : ∀ z ∈ y :: T, C_D S1 h (V_n z.1) z.2) : C_D S1 (h + 1) n (A ++ (y :: T ++ B)) := by
  obtain ⟨d1, d2, d3, d4⟩ := C_D_s.mp hD
  have hk : ∀ w, w ∈ (A ++ [u]).tail ∨ w ∈ B → B_eg S1 (V_s w.1) (V_e w.1) := fun w hw => by
    obtain ⟨u1, u2⟩ := h2 (V_s w.1) (hw.elim (fun z => Or.inl (List.mem_map.mpr ⟨w, z, rfl⟩)) fun z => Or.inr (Or.inl (List.mem_map.mpr ⟨w, z, rfl⟩)))
    refine (d3 w ?_).ag hU u1 g u2
    cases A with
    | nil =>
      rcases hw with z | z
      · exact absurd z (by simp)
      · exact List.mem_cons_of_mem _ z
    | cons a A =>
      rcases hw with z | z
      · rcases List.mem_append.mp (show w ∈ A ++ [u] from z) with q | q
        · exact List.mem_append_left _ q
        · exact List.mem_append_right _ (by rw [List.mem_singleton.mp q]; exact List.mem_cons_self)
      · exact List.mem_append_right _ (List.mem_cons_of_mem _ (List.mem_cons_of_mem _ z))
  refine C_D_s.mpr ⟨hno, hl, fun z hz => ?_, fun z hz => ?_⟩
  · have hc : z ∈ (A ++ [u]).tail ∨ (A ≠ [] ∧ z = y) ∨ z ∈ T ∨ z ∈ B := by
      cases A with
      | nil =>
        rcases List.mem_append.mp (show z ∈ T ++ B from hz) with q | q
        · exact Or.inr (Or.inr (Or.inl q))
        · exact Or.inr (Or.inr (Or.inr q))
      | cons a A =>
        rcases List.mem_append.mp (show z ∈ A ++ (y :: T ++ B) from hz) with q | q
        · exact Or.inl (List.mem_append_left _ q)
        · rcases List.mem_append.mp q with q | q
          · rcases List.mem_cons.mp q with q | q
            · exact Or.inr (Or.inl ⟨by simp, q⟩)
            · exact Or.inr (Or.inr (Or.inl q))
          · exact Or.inr (Or.inr (Or.inr q))
    rcases hc with c | ⟨c1, c2⟩ | c | c
    · exact hk z (Or.inl c)
    · rw [c2, hy]
      refine hk u (Or.inl ?_)
      cases A with
      | nil => exact absurd rfl c1
      | cons a A => exact List.mem_append_right _ List.mem_cons_self
    · exact hT z c
    · exact hk z (Or.inr c)
  · have hk2 : ∀ w, w ∈ A ∨ w ∈ B → C_D S1 h (V_n w.1) w.2 := fun w hw => by
      have hm : w ∈ A ++ u :: v :: B := hw.elim (fun z => List.mem_append_left _ z) fun z => List.mem_append_right _ (List.mem_cons_of_mem _ (List.mem_cons_of_mem _ z))
      have m1 : ∀ m ∈ V_ns h (V_n w.1) w.2, m ∈ V_nk (h + 1) A ∨ m ∈ V_nk (h + 1) B := fun m hm => hw.elim (fun z => Or.inl (List.mem_flatMap.mpr ⟨w, z, hm⟩)) fun z => Or.inr (List.mem_flatMap.mpr ⟨w, z, hm⟩)
      have m2 : ∀ s ∈ V_us h w.2, s ∈ V_uk h A ∨ s ∈ V_uk h B := fun s hs => hw.elim (fun z => Or.inl (List.mem_flatMap.mpr ⟨w, z, hs⟩)) fun z => Or.inr (List.mem_flatMap.mpr ⟨w, z, hs⟩)
      exact (d4 w hm).ag hN hU (fun m hm => (h1 m (m1 m hm)).1) (fun s hs => (h2 s (Or.inr (Or.inr (m2 s hs)))).1) g (fun m hm => (h1 m (m1 m hm)).2) fun s hs => (h2 s (Or.inr (Or.inr (m2 s hs)))).2
    rcases List.mem_append.mp hz with c | c
    · exact hk2 z (Or.inl c)
    · rcases List.mem_append.mp c with c | c
      · exact hC z c
      · exact hk2 z (Or.inr c)
/-- the marks of a node around two neighbours -/
theorem V_ts_nb (h : Nat) (A T B : List (N_i V_W (h + 1))) {u y : N_i V_W (h + 1)} (hy : V_s y.1 = V_s u.1) : V_ts h (A ++ (y :: T ++ B)) = V_ts h (A ++ [u]) ++ ((T.map fun z => V_s z.1) ++ B.map fun z => V_s z.1) := by
  show V_ts h (A ++ y :: (T ++ B)) = _
  rw [V_ts_cut, V_ts_m h A (x := u) [] hy, List.map_append]
theorem V_map_nb (h : Nat) (A T B : List (N_i V_W (h + 1))) (y : N_i V_W (h + 1)) : (A ++ (y :: T ++ B)).map (V_k (h + 1)) = A.map (V_k (h + 1)) ++ (V_n y.1 :: T.map (fun z => V_n z.1) ++ B.map (V_k (h + 1))) := by
  rw [List.map_append, List.map_append, List.map_cons]
  rfl
