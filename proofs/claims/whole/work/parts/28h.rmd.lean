/-! TREES OF THE REFERENCE: two neighbours are made anew -/
/-- all items stand, the first one's mark too -/
def R_ba (b : Nat) (ρ : Nat → Nat) (x : Nat) (M : g_M) : (h : Nat) → List (N_i V_W h) → Prop
  | 0, l => ∀ y ∈ l, R_e b ρ x (V_k 0 y) M (V_e y)
  | h + 1, l => ∀ y ∈ l, R_e b ρ x (V_s y.1) M (V_e y.1) ∧ R_D b ρ x M h (V_n y.1) y.2
def V_sm (h : Nat) (l : List (N_i V_W h)) : List Nat := l.map fun z => V_s (V_mi h z)
def V_ua (h : Nat) (l : List (N_i V_W h)) (i : Nat) : Prop := i ∈ V_us h l ∨ i ∈ V_sm h l
def V_pr {h : Nat} (l : List (N_i V_W (h + 1))) : List (Int × Int) := l.map fun z => (((V_n z.1 : Nat) : Int), ((V_s z.1 : Nat) : Int))
section RMD
variable {m b d x : Nat} {ρ : Nat → Nat} {M M1 : g_M}
theorem R_bl.ap {h : Nat} {L l : List (N_i V_W h)} (h1 : R_bl b ρ x M h L) (h2 : R_ba b ρ x M h l) : R_bl b ρ x M h (L ++ l) := by
  cases h with
  | zero => exact fun y hy => (List.mem_append.mp hy).elim (h1 y) (h2 y)
  | succ h =>
    refine ⟨fun y hy => ?_, fun y hy => (List.mem_append.mp hy).elim (h1.2 y) fun z => (h2 y z).2⟩
    rcases L with _ | ⟨a, L⟩
    · exact (h2 y (List.mem_of_mem_tail hy)).1
    · have hy : y ∈ L ++ l := hy
      exact (List.mem_append.mp hy).elim (h1.1 y) fun z => (h2 y z).1
theorem R_bl.tl {h : Nat} {T l : List (N_i V_W h)} (h1 : R_bl b ρ x M h (T ++ l)) (hT : T ≠ []) : R_ba b ρ x M h l := by
  cases h with
  | zero => exact fun y hy => h1 y (List.mem_append_right _ hy)
  | succ h =>
    obtain ⟨a, T, rfl⟩ := List.exists_cons_of_ne_nil hT
    exact fun y hy => ⟨h1.1 y (List.mem_append_right _ hy), h1.2 y (List.mem_append_right _ hy)⟩
theorem R_ba.bl {h : Nat} {l : List (N_i V_W h)} (h1 : R_ba b ρ x M h l) : R_bl b ρ x M h l := by
  cases h with
  | zero => exact h1
  | succ h => exact ⟨fun y hy => (h1 y (List.mem_of_mem_tail hy)).1, fun y hy => (h1 y hy).2⟩
theorem R_bl.hd {h : Nat} {l : List (N_i V_W h)} {w : V_W} (h1 : R_bl b ρ x M h l) (h2 : R_e b ρ x (V_s w) M (V_e w)) : R_ba b ρ x M h (V_hd h w l) := by
  cases h with
  | zero => exact h1
  | succ h =>
    cases l with
    | nil => exact fun y hy => absurd hy (by simp [V_hd])
    | cons z r =>
      intro y hy
      rcases List.mem_cons.mp hy with g | g
      · subst g
        exact ⟨h2, h1.2 z List.mem_cons_self⟩
      · exact ⟨h1.1 y g, h1.2 y (List.mem_cons_of_mem _ g)⟩
theorem R_mk.ap {h : Nat} {L l : List (N_i V_W h)} {P R : List (Int × Int)} (h1 : R_mk h L P) (hl : P.length = L.length) (hL : L ≠ []) (h2 : 0 < h → R.map Prod.snd = B_il (V_sm h l)) : R_mk h (L ++ l) (P ++ R) := by
  cases h with
  | zero => exact trivial
  | succ h =>
    obtain ⟨a, L, rfl⟩ := List.exists_cons_of_ne_nil hL
    cases P with
    | nil => rw [List.length_nil, List.length_cons] at hl; omega
    | cons p P =>
      have h1 : P.map Prod.snd = B_il (L.map fun y => V_s y.1) := h1
      have h2 : R.map Prod.snd = B_il (l.map fun y => V_s y.1) := h2 (Nat.succ_pos h)
      show (P ++ R).map Prod.snd = B_il ((L ++ l).map fun y => V_s y.1)
      rw [List.map_append, List.map_append, B_il_app, h1, h2]
theorem R_mk.hd {h : Nat} {l : List (N_i V_W h)} {P : List (Int × Int)} {w : V_W} (h1 : R_mk h l P) (hl : P.length = l.length) (hh : 0 < h) : (R_hd ((V_s w : Nat) : Int) P).map Prod.snd = B_il (V_sm h (V_hd h w l)) := by
  cases h with
  | zero => exact absurd hh (Nat.lt_irrefl 0)
  | succ h =>
    cases l with
    | nil =>
      have : P = [] := List.length_eq_zero_iff.mp hl
      subst this
      rfl
    | cons z r =>
      cases P with
      | nil => rw [List.length_nil, List.length_cons] at hl; omega
      | cons p P =>
        have h1 : P.map Prod.snd = B_il (r.map fun y => V_s y.1) := h1
        show ((V_s w : Nat) : Int) :: P.map Prod.snd = ((V_s w : Nat) : Int) :: B_il (r.map fun y => V_s y.1)
        rw [h1]
theorem R_hd_fst (v : Int) (P : List (Int × Int)) : (R_hd v P).map Prod.fst = P.map Prod.fst := by cases P <;> rfl
theorem R_hd_len (v : Int) (P : List (Int × Int)) : (R_hd v P).length = P.length := by cases P <;> rfl
theorem R_hd_ps {v : Int} {P : List (Int × Int)} (hv : g_InR v) (h : R_ps P) : R_ps (R_hd v P) := by
  cases P with
  | nil => exact h
  | cons p P =>
    intro y hy
    rcases List.mem_cons.mp hy with g | g
    · rw [g]
      exact ⟨(h p List.mem_cons_self).1, hv⟩
    · exact h y (List.mem_cons_of_mem _ g)
/-- numbers of entries and marks -/
theorem V_ua_ap {h : Nat} {L l : List (N_i V_W h)} {i : Nat} (hi : i ∈ V_us h (L ++ l)) : i ∈ V_us h L ∨ V_ua h l i := by
  cases h with
  | zero =>
    obtain ⟨y, hy, rfl⟩ := List.mem_map.mp hi
    exact (List.mem_append.mp hy).imp (fun z => List.mem_map.mpr ⟨y, z, rfl⟩) fun z => Or.inl (List.mem_map.mpr ⟨y, z, rfl⟩)
  | succ h =>
    rw [V_us_s] at hi
    rcases List.mem_append.mp hi with hi | hi
    · obtain ⟨y, hy, rfl⟩ := List.mem_map.mp hi
      cases L with
      | nil => exact Or.inr (Or.inl (by rw [V_us_s]; exact List.mem_append_left _ (List.mem_map.mpr ⟨y, hy, rfl⟩)))
      | cons a L =>
        have hy : y ∈ L ++ l := hy
        rcases List.mem_append.mp hy with z | z
        · exact Or.inl (by rw [V_us_s]; exact List.mem_append_left _ (List.mem_map.mpr ⟨y, z, rfl⟩))
        · exact Or.inr (Or.inr (List.mem_map.mpr ⟨y, z, rfl⟩))
    · obtain ⟨y, hy, hi⟩ := List.mem_flatMap.mp hi
      rcases List.mem_append.mp hy with z | z
      · exact Or.inl (by rw [V_us_s]; exact List.mem_append_right _ (List.mem_flatMap.mpr ⟨y, z, hi⟩))
      · exact Or.inr (Or.inl (by rw [V_us_s]; exact List.mem_append_right _ (List.mem_flatMap.mpr ⟨y, z, hi⟩)))
theorem V_ua_hd {h : Nat} {l : List (N_i V_W h)} {w : V_W} {i : Nat} (hi : V_ua h (V_hd h w l) i) : i = V_s w ∨ i ∈ V_us h l := by
  cases h with
  | zero => exact Or.inr (hi.elim id id)
  | succ h =>
    cases l with
    | nil => exact Or.inr (hi.elim id fun z => absurd z (by simp [V_sm, V_hd]))
    | cons z r =>
      rcases hi with g | g
      · exact Or.inr g
      · rcases List.mem_cons.mp (show i ∈ V_s w :: r.map fun y => V_s y.1 from g) with g | g
        · exact Or.inl g
        · exact Or.inr (by rw [V_us_s]; exact List.mem_append_left _ g)
theorem V_ua_tl {h : Nat} {T l : List (N_i V_W h)} {i : Nat} (hT : T ≠ []) (hi : V_ua h l i) : i ∈ V_us h (T ++ l) := by
  obtain ⟨a, T, rfl⟩ := List.exists_cons_of_ne_nil hT
  cases h with
  | zero =>
    have hi : i ∈ l.map (V_k 0) := hi.elim id id
    obtain ⟨y, hy, rfl⟩ := List.mem_map.mp hi
    exact List.mem_map.mpr ⟨y, List.mem_append_right _ hy, rfl⟩
  | succ h =>
    rw [V_us_s]
    rcases hi with g | g
    · rw [V_us_s] at g
      rcases List.mem_append.mp g with g | g
      · obtain ⟨y, hy, rfl⟩ := List.mem_map.mp g
        exact List.mem_append_left _ (List.mem_map.mpr ⟨y, List.mem_append_right _ (List.mem_of_mem_tail hy), rfl⟩)
      · obtain ⟨y, hy, hi⟩ := List.mem_flatMap.mp g
        exact List.mem_append_right _ (List.mem_flatMap.mpr ⟨y, List.mem_append_right _ hy, hi⟩)
    · obtain ⟨y, hy, rfl⟩ := List.mem_map.mp g
      exact List.mem_append_left _ (List.mem_map.mpr ⟨y, List.mem_append_right _ hy, rfl⟩)
/-- two neighbours under a node -/
theorem R_ps_two {ps : List (Int × Int)} {A B : List Nat} {k1 k2 : Nat} (h : ps.map Prod.fst = B_il (A ++ k1 :: k2 :: B)) : ∃ PA m1 m2 PB, ps = PA ++ ((k1 : Int), m1) :: ((k2 : Int), m2) :: PB ∧ PA.length = A.length ∧ PA.map Prod.fst = B_il A ∧ PB.map Prod.fst = B_il B := by
  rw [B_il_app, B_il_c, B_il_c] at h
  obtain ⟨PA, r, h1, h2, h3⟩ := List.map_eq_append_iff.mp h
  obtain ⟨p1, r2, h4, h5, h6⟩ := List.map_eq_cons_iff.mp h3
  obtain ⟨p2, PB, h7, h8, h9⟩ := List.map_eq_cons_iff.mp h6
  refine ⟨PA, p1.2, p2.2, PB, ?_, ?_, h2, h9⟩
  · rw [h1, h4, h7, ← h5, ← h8]
  · have := congrArg List.length h2
    rwa [List.length_map, B_il_len] at this
theorem R_D.two {h n : Nat} {A B : List (N_i V_W (h + 1))} {u v : N_i V_W (h + 1)} (hD : R_D b ρ x M (h + 1) n (A ++ u :: v :: B)) : n < 600 ∧ (A ++ u :: v :: B).length ≤ 9 ∧ R_e b ρ x (V_s v.1) M (V_e v.1) ∧ R_D b ρ x M h (V_n u.1) u.2 ∧ R_D b ρ x M h (V_n v.1) v.2 ∧ ∃ PA m1 PB, R_no ρ x n M 0 (PA ++ (((V_n u.1 : Nat) : Int), m1) :: (((V_n v.1 : Nat) : Int), ((V_s v.1 : Nat) : Int)) :: PB) ∧ R_ps (PA ++ (((V_n u.1 : Nat) : Int), m1) :: (((V_n v.1 : Nat) : Int), ((V_s v.1 : Nat) : Int)) :: PB) ∧ PA.length = A.length ∧ PA.map Prod.fst = B_il (A.map (V_k (h + 1))) ∧ PB.map Prod.fst = B_il (B.map (V_k (h + 1))) ∧ R_mk (h + 1) (A ++ [u]) (PA ++ [(((V_n u.1 : Nat) : Int), m1)]) ∧ PB.map Prod.snd = B_il (B.map fun z => V_s z.1) := by
  obtain ⟨a1, a2, ⟨ps, p1, p2, p3, p4⟩, a4, a5⟩ := R_D_s.mp hD
  rw [List.map_append, List.map_cons, List.map_cons] at p3
  obtain ⟨PA, m1, m2, PB, q1, q2, q3, q4⟩ := R_ps_two p3
  rw [List.length_map] at q2
  subst q1
  have hmk : R_mk (h + 1) ((A ++ [u]) ++ v :: B) ((PA ++ [(((V_k (h + 1) u : Nat) : Int), m1)]) ++ (((V_k (h + 1) v : Nat) : Int), m2) :: PB) := by
    rw [List.append_assoc, List.append_assoc]
    exact p4
  obtain ⟨g1, g2, g3⟩ := R_mk_split (by rw [List.length_append, List.length_append, q2]; rfl) (by rw [List.length_append]; exact Nat.succ_pos _) hmk
  have g3 : m2 = ((V_s v.1 : Nat) : Int) := g3 (Nat.succ_pos h)
  subst g3
  refine ⟨a1, a2, a4 v ?_, a5 u (by simp), a5 v (by simp), PA, m1, PB, p1, p2, q2, q3, q4, g1, g2⟩
  cases A with
  | nil => exact List.mem_cons_self
  | cons a A => exact List.mem_append_right _ (List.mem_cons_of_mem _ List.mem_cons_self)
theorem R_D.nb (hR : R_rw m b ρ M) {h n : Nat} {A B T : List (N_i V_W (h + 1))} {u v y : N_i V_W (h + 1)} {PA PB : List (Int × Int)} {m1 : Int} (hD : R_D b ρ x M (h + 1) n (A ++ u :: v :: B)) (hnd : (V_ns (h + 1) n (A ++ u :: v :: B)).Nodup) (f : e_fr (R_C m ρ x (fun j => j = n ∨ j = V_n u.1 ∨ j = V_n v.1)) M M1) (q1 : R_ps (PA ++ (((V_n u.1 : Nat) : Int), m1) :: PB)) (q2 : PA.length = A.length) (q3 : PA.map Prod.fst = B_il (A.map (V_k (h + 1)))) (q4 : PB.map Prod.fst = B_il (B.map (V_k (h + 1)))) (q5 : R_mk (h + 1) (A ++ [u]) (PA ++ [(((V_n u.1 : Nat) : Int), m1)])) (q6 : PB.map Prod.snd = B_il (B.map fun z => V_s z.1)) (no1 : R_no ρ x n M1 0 (PA ++ (((V_n u.1 : Nat) : Int), m1) :: (V_pr T ++ PB))) (hy : y.1 = u.1) (hl : (A ++ (y :: T ++ B)).length ≤ 9) (hT : ∀ z ∈ T, V_s z.1 < 1500 ∧ R_e b ρ x (V_s z.1) M1 (V_e z.1)) (hC : ∀ z ∈ y :: T, R_D b ρ x M1 h (V_n z.1) z.2) : R_D b ρ x M1 (h + 1) n (A ++ (y :: T ++ B)) ∧ e_fr (R_C m ρ x (fun k => k ∈ V_ns (h + 1) n (A ++ u :: v :: B))) M M1 := by
  obtain ⟨a1, a2, -, a4, a5⟩ := R_D_s.mp hD
  have hns : V_ns (h + 1) n (A ++ u :: v :: B) = n :: (V_nb (h + 1) A ++ (V_ns h (V_n u.1) u.2 ++ (V_ns h (V_n v.1) v.2 ++ V_nb (h + 1) B))) := by
    rw [V_ns_b, V_nb_app]
    rfl
  have hnu := V_ns_m h (V_n u.1) u.2
  have hnv := V_ns_m h (V_n v.1) v.2
  refine ⟨?_, f.up fun w q z => ?_⟩
  · rw [hns] at hnd
    obtain ⟨n1, n2⟩ := List.nodup_cons.mp hnd
    obtain ⟨n3, n4, n5⟩ := List.nodup_append.mp n2
    obtain ⟨n6, n7, n8⟩ := List.nodup_append.mp n4
    obtain ⟨n9, n10, n11⟩ := List.nodup_append.mp n7
    have hsib : ∀ w, w ∈ A ∨ w ∈ B → R_D b ρ x M1 h (V_n w.1) w.2 := fun w hw => by
      refine (a5 w (hw.elim (fun z => List.mem_append_left _ z) fun z => List.mem_append_right _ (List.mem_cons_of_mem _ (List.mem_cons_of_mem _ z)))).fr f (fun y q z => R_C_eA hR z) fun k hk y q z => R_C_av (A := fun j => j = n ∨ j = V_n u.1 ∨ j = V_n v.1) hR (fun z2 => ?_) z
      rcases hw with g | g
      · have hkA : k ∈ V_nb (h + 1) A := List.mem_flatMap.mpr ⟨w, g, hk⟩
        rcases z2 with z2 | z2 | z2
        · exact n1 (by rw [← z2]; exact List.mem_append_left _ hkA)
        · exact n5 k hkA (V_n u.1) (List.mem_append_left _ hnu) z2
        · exact n5 k hkA (V_n v.1) (List.mem_append_right _ (List.mem_append_left _ hnv)) z2
      · have hkB : k ∈ V_nb (h + 1) B := List.mem_flatMap.mpr ⟨w, g, hk⟩
        rcases z2 with z2 | z2 | z2
        · exact n1 (by rw [← z2]; exact List.mem_append_right _ (List.mem_append_right _ (List.mem_append_right _ hkB)))
        · exact n8 (V_n u.1) hnu k (List.mem_append_right _ hkB) z2.symm
        · exact n11 (V_n v.1) hnv k hkB z2.symm
    have hmk : ∀ w, w ∈ (A ++ [u]).tail ∨ w ∈ B → R_e b ρ x (V_s w.1) M1 (V_e w.1) := fun w hw => by
      refine (a4 w ?_).fr f fun y q z => R_C_eA hR z
      cases A with
      | nil =>
        rcases hw with z | z
        · exact absurd z (by simp)
        · exact List.mem_cons_of_mem _ z
      | cons a A =>
        rcases hw with z | z
        · rcases List.mem_append.mp (show w ∈ A ++ [u] from z) with q | q
          · exact List.mem_append_left _ q
          · exact List.mem_append_right _ (by rw [List.mem_singleton.mp q]; exact List.mem_cons_self)
        · exact List.mem_append_right _ (List.mem_cons_of_mem _ (List.mem_cons_of_mem _ z))
    refine R_D_u.mpr ⟨a1, hl, ⟨_, no1, fun w hw => ?_, ?_, ?_⟩, fun w hw => ?_, fun w hw => ?_⟩
    · rcases List.mem_append.mp hw with g | g
      · exact q1 w (List.mem_append_left _ g)
      · rcases List.mem_cons.mp g with g | g
        · exact q1 w (by rw [g]; simp)
        · rcases List.mem_append.mp g with g | g
          · obtain ⟨z, hz, rfl⟩ := List.mem_map.mp g
            have h1 := (hC z (List.mem_cons_of_mem _ hz)).lt
            have h2 := (hT z hz).1
            exact ⟨⟨by show (-2147483648 : Int) ≤ ((V_n z.1 : Nat) : Int); omega, by show ((V_n z.1 : Nat) : Int) ≤ 2147483647; omega⟩, ⟨by show (-2147483648 : Int) ≤ ((V_s z.1 : Nat) : Int); omega, by show ((V_s z.1 : Nat) : Int) ≤ 2147483647; omega⟩⟩
          · exact q1 w (List.mem_append_right _ (List.mem_cons_of_mem _ g))
    · have hvk : V_k (h + 1) y = V_n u.1 := by
        show V_n y.1 = V_n u.1
        rw [hy]
      have hpr : (V_pr T).map Prod.fst = B_il (T.map (V_k (h + 1))) := by
        unfold V_pr B_il
        rw [List.map_map, List.map_map]
        rfl
      rw [List.map_append, List.map_cons, List.map_append, q3, q4, hpr, List.map_append, List.cons_append, List.map_cons, List.map_append, B_il_app, B_il_c, B_il_app, hvk]
    · have hpr : (V_pr T).map Prod.snd = B_il (T.map fun z => V_s z.1) := by
        unfold V_pr B_il
        rw [List.map_map, List.map_map]
        rfl
      have h5 : R_mk (h + 1) (A ++ [y]) (PA ++ [(((V_n u.1 : Nat) : Int), m1)]) := by
        have : V_ts h (A ++ [y]) = V_ts h (A ++ [u]) := by
          unfold V_ts
          cases A with
          | nil => rfl
          | cons a A =>
            show (A ++ [y]).map _ = (A ++ [u]).map _
            rw [List.map_append, List.map_append, List.map_singleton, List.map_singleton, hy]
        show _ = B_il (V_ts h (A ++ [y]))
        rw [this]
        exact q5
      have h6 := h5.ap (R := V_pr T ++ PB) (l := T ++ B) (by rw [List.length_append, List.length_append, q2]; rfl) (by simp) fun _ => by
        show _ = B_il ((T ++ B).map fun z => V_s z.1)
        rw [List.map_append, List.map_append, B_il_app, hpr, q6]
      rw [List.append_assoc, List.append_assoc] at h6
      exact h6
    · have hc : w ∈ (A ++ [y]).tail ∨ w ∈ T ∨ w ∈ B := by
        cases A with
        | nil => exact Or.inr (List.mem_append.mp (show w ∈ T ++ B from hw))
        | cons a A =>
          rcases List.mem_append.mp (show w ∈ A ++ (y :: T ++ B) from hw) with g | g
          · exact Or.inl (List.mem_append_left _ g)
          · rcases List.mem_append.mp g with g | g
            · rcases List.mem_cons.mp g with g | g
              · exact Or.inl (List.mem_append_right _ (by rw [g]; exact List.mem_cons_self))
              · exact Or.inr (Or.inl g)
            · exact Or.inr (Or.inr g)
      rcases hc with g | g | g
      · cases A with
        | nil => exact absurd g (by simp)
        | cons a A =>
          rcases List.mem_append.mp (show w ∈ A ++ [y] from g) with g | g
          · exact hmk w (Or.inl (List.mem_append_left _ g))
          · rw [List.mem_singleton.mp g, hy]
            exact hmk u (Or.inl (List.mem_append_right _ List.mem_cons_self))
      · exact (hT w g).2
      · exact hmk w (Or.inr g)
    · rcases List.mem_append.mp hw with g | g
      · exact hsib w (Or.inl g)
      · rcases List.mem_append.mp g with g | g
        · exact hC w g
        · exact hsib w (Or.inr g)
  · rcases z with ⟨k', hk', z⟩ | z
    · refine Or.inl ⟨k', ?_, z⟩
      rw [hns]
      rcases hk' with g | g | g
      · rw [g]
        exact List.mem_cons_self
      · rw [g]
        exact List.mem_cons_of_mem _ (List.mem_append_right _ (List.mem_append_left _ hnu))
      · rw [g]
        exact List.mem_cons_of_mem _ (List.mem_append_right _ (List.mem_append_right _ (List.mem_append_left _ hnv)))
    · exact Or.inr z
/-- the numbers of entries and marks stay among those that were -/
theorem V_us_nb {h : Nat} {A B T : List (N_i V_W (h + 1))} {u v y : N_i V_W (h + 1)} (hy : y.1 = u.1) (h1 : ∀ i ∈ V_us h y.2, i ∈ V_us (h + 1) (A ++ u :: v :: B)) (h2 : ∀ z ∈ T, V_s z.1 ∈ V_us (h + 1) (A ++ u :: v :: B) ∧ ∀ i ∈ V_us h z.2, i ∈ V_us (h + 1) (A ++ u :: v :: B)) : ∀ i ∈ V_us (h + 1) (A ++ (y :: T ++ B)), i ∈ V_us (h + 1) (A ++ u :: v :: B) := by
  have hm : ∀ w, w ∈ (A ++ u :: v :: B).tail → V_s w.1 ∈ V_us (h + 1) (A ++ u :: v :: B) := fun w hw => by
    rw [V_us_s]
    exact List.mem_append_left _ (List.mem_map.mpr ⟨w, hw, rfl⟩)
  have hs : ∀ w, w ∈ A ++ u :: v :: B → ∀ i ∈ V_us h w.2, i ∈ V_us (h + 1) (A ++ u :: v :: B) := fun w hw i hi => by
    rw [V_us_s]
    exact List.mem_append_right _ (List.mem_flatMap.mpr ⟨w, hw, hi⟩)
  have hB : ∀ w ∈ B, w ∈ (A ++ u :: v :: B).tail := fun w hw => by
    cases A with
    | nil => exact List.mem_cons_of_mem _ hw
    | cons a A => exact List.mem_append_right _ (List.mem_cons_of_mem _ (List.mem_cons_of_mem _ hw))
  intro i hi
  rw [V_us_s] at hi
  rcases List.mem_append.mp hi with hi | hi
  · obtain ⟨w, hw, rfl⟩ := List.mem_map.mp hi
    cases A with
    | nil =>
      rcases List.mem_append.mp (show w ∈ T ++ B from hw) with g | g
      · exact (h2 w g).1
      · exact hm w (hB w g)
    | cons a A =>
      rcases List.mem_append.mp (show w ∈ A ++ (y :: T ++ B) from hw) with g | g
      · exact hm w (List.mem_append_left _ g)
      · rcases List.mem_append.mp g with g | g
        · rcases List.mem_cons.mp g with g | g
          · rw [g, hy]
            exact hm u (List.mem_append_right _ List.mem_cons_self)
          · exact (h2 w g).1
        · exact hm w (hB w g)
  · obtain ⟨w, hw, hi⟩ := List.mem_flatMap.mp hi
    rcases List.mem_append.mp hw with g | g
    · exact hs w (List.mem_append_left _ g) i hi
    · rcases List.mem_append.mp g with g | g
      · rcases List.mem_cons.mp g with g | g
        · exact h1 i (by rw [← g]; exact hi)
        · exact (h2 w g).2 i hi
      · exact hs w (List.mem_append_right _ (List.mem_cons_of_mem _ (List.mem_cons_of_mem _ g))) i hi
end RMD
