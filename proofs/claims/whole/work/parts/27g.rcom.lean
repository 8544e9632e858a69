/-! TREES OF THE REFERENCE: an entry comes below a node -/
def R_nw (us us1 be af : List Nat) (c : Nat) : Prop := ∃ new : List Nat, us1 = new ++ us ∧ af.Perm (new ++ be) ∧ new.length ≤ c
theorem R_nw.nd {us us1 be af : List Nat} {c : Nat} (h : R_nw us us1 be af c) (h1 : us1.Nodup) (h2 : be.Nodup) (h3 : ∀ k ∈ be, k ∈ us) : af.Nodup ∧ (∀ k ∈ af, k ∈ us1) ∧ us1.length ≤ us.length + c ∧ (∀ k ∈ us, k ∈ us1) ∧ ∀ k ∈ af, k ∈ be ∨ k ∉ us := by
  obtain ⟨new, rfl, g2, g3⟩ := h
  obtain ⟨h4, h5, h6⟩ := List.nodup_append.mp h1
  refine ⟨g2.nodup_iff.mpr (List.nodup_append.mpr ⟨h4, h2, fun a ha b hb => h6 a ha b (h3 b hb)⟩), fun k hk => ?_, by rw [List.length_append]; omega, fun k hk => List.mem_append_right _ hk, fun k hk => ?_⟩
  · rcases List.mem_append.mp (g2.mem_iff.mp hk) with g | g
    · exact List.mem_append_left _ g
    · exact List.mem_append_right _ (h3 k g)
  · rcases List.mem_append.mp (g2.mem_iff.mp hk) with g | g
    · exact Or.inr fun z => h6 k g k z rfl
    · exact Or.inl g
theorem V_us_sb {h : Nat} {l l1 : List (N_i V_W h)} (h1 : ∀ y ∈ l1, y ∈ l) (h2 : ∀ y ∈ l1.tail, y ∈ l.tail) : ∀ i ∈ V_us h l1, i ∈ V_us h l := by
  intro i hi
  cases h with
  | zero =>
    obtain ⟨y, hy, rfl⟩ := List.mem_map.mp hi
    exact List.mem_map.mpr ⟨y, h1 y hy, rfl⟩
  | succ h =>
    rw [V_us_s] at hi ⊢
    rcases List.mem_append.mp hi with hi | hi
    · obtain ⟨y, hy, rfl⟩ := List.mem_map.mp hi
      exact List.mem_append_left _ (List.mem_map.mpr ⟨y, h2 y hy, rfl⟩)
    · obtain ⟨y, hy, hi⟩ := List.mem_flatMap.mp hi
      exact List.mem_append_right _ (List.mem_flatMap.mpr ⟨y, h1 y hy, hi⟩)
/-- the numbers of entries and marks of what is split off -/
def V_uo (h : Nat) (o : Option (N_i V_W (h + 1))) : List Nat := o.toList.flatMap fun y => V_s y.1 :: V_us h y.2
theorem N_spl_cut {E : Type} {h : Nat} {A : List (N_i E h)} {z : N_i E h} {B : List (N_i E h)} (hA : A.length = 4) (h8 : 8 < (A ++ z :: B).length) : N_spl h (A ++ z :: B) = (A, some (N_mk h (N_f h z) (z :: B))) := by
  unfold N_spl
  rw [if_neg (by omega)]
  have h1 : (A ++ z :: B).take 4 = A := by
    rw [← hA]
    exact List.take_left
  have h2 : (A ++ z :: B).drop 4 = z :: B := by
    rw [← hA]
    exact List.drop_left
  rw [h1, h2]
  rfl
section RCOM
variable {m b x : Nat} {ρ : Nat → Nat} {w1 w2 : Int} {dn : Nat}
/-- what comes of an entry's coming -/
def R_cq (m b : Nat) (ρ : Nat → Nat) (x : Nat) (h n s : Nat) (us : List Nat) (l : List (N_i V_W h)) (T : List (N_i I_E h) × Option (N_i I_E (h + 1))) (M : g_M) (c : Nat) (Q : Int → g_M → Prop) : Prop := ∀ M1 l1 o us1, e_fr (R_C m ρ x (fun k => k < 600 ∧ (k ∈ V_ns h n l ∨ k ∉ us))) M M1 → R_D b ρ x M1 h n l1 → T = (l1.map (V_er h), o.map (V_er (h + 1))) → R_us ρ x M1 us1 → R_nw us us1 (V_ns h n l) (V_ns h n l1 ++ V_nb (h + 1) o.toList) c → (∀ i ∈ V_us h l1 ++ V_uo h o, i = s ∨ i ∈ V_us h l) → (∀ y, o = some y → R_D b ρ x M1 h (V_n y.1) y.2 ∧ R_e b ρ x (V_s y.1) M1 (V_e y.1) ∧ g_i M1 m 55 = (V_n y.1 : Nat) ∧ g_i M1 m 56 = (V_s y.1 : Nat)) → Q (if o.isSome = true then 1 else 0) M1
/-- from the insertion on -/
theorem e_cend {d h n s : Nat} {us us2 : List Nat} {l L2 : List (N_i V_W h)} {T : List (N_i I_E h) × Option (N_i I_E (h + 1))} {M M2 : g_M} {c : Nat} {Q : Int → g_M → Prop} (hR2 : R_rw m b ρ M2) (hx : x < 8) (hs : s < 1500) (hD2 : R_D b ρ x M2 h n L2) (hnd : (V_ns h n l).Nodup) (hin : ∀ k ∈ V_ns h n l, k ∈ us) (hus2 : R_us ρ x M2 us2) (hul : us2.length < 600) (hnw : R_nw us us2 (V_ns h n l) (V_ns h n L2) c) (f2 : e_fr (R_C m ρ x (fun k => k < 600 ∧ (k ∈ V_ns h n l ∨ k ∉ us))) M M2) (hu : ∀ i ∈ V_us h L2, i = s ∨ i ∈ V_us h l) (hT : T = N_spl h (L2.map (V_er h))) (hq : R_cq m b ρ x h n s us l T M (c + 1) Q) : g_Run (d + 43) 377 76 [(0, .ref m), (1, g_n x), (2, g_n n), (3, g_n s)] [] M2 (g_qI Q) := by
  obtain ⟨nd2, in2, -, sub2, af2⟩ := hnw.nd hus2.2.1 hnd hin
  have hnn : n ∈ V_ns h n l := V_ns_m h n l
  refine e_c76 hR2 hx hD2 nd2 in2 hus2 hul hs (fun g8 => ?_) fun M1 k L4 z0 Lr hL hL4 g8 hku hk f1 d1 d2 hus1 he h55 h56 => ?_
  · obtain ⟨new, n1, n2, n3⟩ := hnw
    refine hq M2 L2 none us2 f2 hD2 ?_ hus2 ⟨new, n1, ?_, by omega⟩ (fun i hi => ?_) (fun y hy => absurd hy (by simp))
    · rw [hT, N_spl_n (by rw [List.length_map]; exact g8)]
      rfl
    · show (V_ns h n L2 ++ []).Perm _
      rw [List.append_nil]
      exact n2
    · rcases List.mem_append.mp hi with hi | hi
      · exact hu i hi
      · exact absurd hi (by simp [V_uo])
  · obtain ⟨W, hW⟩ : ∃ W : V_W, W = ((V_s (V_mi h z0), k), V_e (V_mi h z0)) := ⟨_, rfl⟩
    obtain ⟨new, n1, n2, n3⟩ := hnw
    have hsubL4 : ∀ i ∈ V_us h L4, i ∈ V_us h L2 := V_us_sb (fun y hy => by rw [hL]; exact List.mem_append_left _ hy) fun y hy => by
      rw [hL]
      rcases L4 with _ | ⟨a, L4⟩
      · exact absurd hy (by simp)
      · exact List.mem_append_left _ hy
    have htl : ∀ y ∈ z0 :: Lr, y ∈ L2.tail := fun y hy => by
      rw [hL]
      rcases L4 with _ | ⟨a, L4⟩
      · rw [List.length_nil] at hL4
        omega
      · exact List.mem_append_right _ hy
    have hsubLr : ∀ i ∈ V_us h (z0 :: Lr), i ∈ V_us h L2 := V_us_sb (fun y hy => by rw [hL]; exact List.mem_append_right _ hy) fun y hy => htl y (List.mem_cons_of_mem _ hy)
    have hmk : V_s (V_mi h z0) ∈ V_us h L2 := by
      cases h with
      | zero => exact List.mem_map.mpr ⟨z0, by rw [hL]; simp, rfl⟩
      | succ h =>
        rw [V_us_s]
        exact List.mem_append_left _ (List.mem_map.mpr ⟨z0, htl z0 List.mem_cons_self, rfl⟩)
    refine hq M1 L4 (some (N_mk h W (z0 :: Lr))) (k :: us2) (f2.tr (f1.up fun y q z => ?_)) d1 ?_ hus1 ⟨k :: new, by rw [n1]; rfl, ?_, by rw [List.length_cons]; omega⟩ (fun i hi => ?_) fun y hy => ?_
    · rcases z with ⟨k', hk', z⟩ | z
      · refine Or.inl ⟨k', ?_, z⟩
        rcases hk' with g | g
        · exact ⟨by rw [g]; exact hD2.lt, Or.inl (by rw [g]; exact hnn)⟩
        · exact ⟨by rw [g]; exact hk, Or.inr fun z2 => hku (sub2 k (g ▸ z2))⟩
      · exact Or.inr z
    · have hLm : L2.map (V_er h) = L4.map (V_er h) ++ V_er h z0 :: Lr.map (V_er h) := by rw [hL, List.map_append, List.map_cons]
      have h8 : 8 < (L4.map (V_er h) ++ V_er h z0 :: Lr.map (V_er h)).length := by rw [← hLm, List.length_map]; exact g8
      rw [hT, hLm, N_spl_cut (by rw [List.length_map]; exact hL4) h8, V_mi_f, hW]
      rfl
    · have e1 : V_nb (h + 1) (some (N_mk h W (z0 :: Lr))).toList = V_ns h k (z0 :: Lr) := by
        show List.flatMap (fun y : N_i V_W (h + 1) => V_ns h (V_n y.1) y.2) [N_mk h W (z0 :: Lr)] = _
        rw [List.flatMap_cons, List.flatMap_nil, List.append_nil, hW]
        rfl
      have e2 : V_ns h n L2 = n :: (V_nb h L4 ++ V_nb h (z0 :: Lr)) := by rw [V_ns_b, hL, V_nb_app]
      rw [e1, V_ns_b h n L4, V_ns_b h k]
      rw [e2] at n2
      refine List.perm_iff_count.mpr fun a => ?_
      have := List.perm_iff_count.mp n2 a
      simp only [List.count_append, List.count_cons] at this ⊢
      omega
    · rcases List.mem_append.mp hi with hi | hi
      · exact hu i (hsubL4 i hi)
      · have hi : i ∈ V_s W :: V_us h (z0 :: Lr) := by
          have : V_uo h (some (N_mk h W (z0 :: Lr))) = V_s W :: V_us h (z0 :: Lr) ++ [] := rfl
          rw [this, List.append_nil] at hi
          exact hi
        rcases List.mem_cons.mp hi with hi | hi
        · exact hu i (by rw [hi, hW]; exact hmk)
        · exact hu i (hsubLr i hi)
    · cases hy
      rw [hW]
      exact ⟨d2, he, h55, h56⟩
theorem R_wy.fr {M M1 : g_M} {A : Nat → Prop} (h : R_wy m x w1 w2 dn M) (hR : R_rw m b ρ M) (f : e_fr (R_C m ρ x A) M M1) : R_wy m x w1 w2 dn M1 := by
  obtain ⟨h1, h2, h3, h4, h5, h6⟩ := h
  have hd : ∀ q, ¬ R_C m ρ x A dn q := fun q z => by
    rcases z with ⟨k, -, z⟩ | ⟨z, -⟩
    · have hn : ∀ {i : Nat}, i ∈ R_fs → dn ≠ ρ i := fun {i} hi z2 => by
        have h9 := (hR.at hi).2
        rw [← z2] at h9
        have h8 := (h9.fn h2).2
        unfold R_ln at h8
        split at h8
        · omega
        · split at h8
          · omega
          · split at h8
            · omega
            · omega
      rcases z with (⟨z | z, -⟩ | ⟨z, -⟩) | ⟨z | z | z, -⟩
      · exact hn (by decide) z
      · exact hn (by decide) z
      · exact hn (by decide) z
      · exact hn (by decide) z
      · exact hn (by decide) z
      · exact hn (by decide) z
    · exact g_neOA hR.1.1 h2 z.symm
  exact ⟨by rw [f.2.2]; exact h1, f.A h2, h3, h4, by rw [f.2.1 dn _ (hd _)]; exact h5, by rw [f.2.1 dn _ (hd _)]; exact h6⟩
theorem R_mk_ins {h : Nat} {A B : List (N_i V_W (h + 1))} {y y2 : N_i V_W (h + 1)} {PA PB : List (Int × Int)} {p : Int × Int} (o : Option (N_i V_W (h + 1))) (hl : PA.length = A.length) (hy : y2.1 = y.1) (g : R_mk (h + 1) (A ++ y :: B) (PA ++ p :: PB)) : R_mk (h + 1) (A ++ y2 :: (o.toList ++ B)) (PA ++ p :: (o.toList.map (fun z : N_i V_W (h + 1) => (((V_n z.1 : Nat) : Int), ((V_s z.1 : Nat) : Int))) ++ PB)) := by
  have ho : (o.toList.map (fun z : N_i V_W (h + 1) => (((V_n z.1 : Nat) : Int), ((V_s z.1 : Nat) : Int)))).map Prod.snd = B_il (o.toList.map fun z => V_s z.1) := by
    cases o <;> rfl
  rcases A with _ | ⟨a, A⟩
  · have hPA : PA = [] := List.length_eq_zero_iff.mp hl
    subst hPA
    have g : PB.map Prod.snd = B_il (B.map fun z => V_s z.1) := g
    show (o.toList.map _ ++ PB).map Prod.snd = B_il ((o.toList ++ B).map fun z => V_s z.1)
    rw [List.map_append, List.map_append, B_il_app, ho, g]
  · rcases PA with _ | ⟨pa, PA⟩
    · rw [List.length_nil, List.length_cons] at hl
      omega
    rw [List.length_cons, List.length_cons] at hl
    have g : (PA ++ p :: PB).map Prod.snd = B_il ((A ++ y :: B).map fun z => V_s z.1) := g
    show (PA ++ p :: (o.toList.map _ ++ PB)).map Prod.snd = B_il ((A ++ y2 :: (o.toList ++ B)).map fun z => V_s z.1)
    rw [List.map_append, List.map_append, B_il_app, List.map_cons, List.map_cons, B_il_c] at g
    obtain ⟨g1, g2⟩ := List.append_inj g (by rw [List.length_map, B_il_len, List.length_map]; omega)
    obtain ⟨g3, g4⟩ := List.cons.inj g2
    rw [List.map_append, List.map_append, B_il_app, List.map_cons, List.map_cons, B_il_c, List.map_append, List.map_append, B_il_app, ho, g1, g4, hy, g3]
end RCOM
