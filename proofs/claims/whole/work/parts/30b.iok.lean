/-! INDEXES: documents come and go -/
theorem I_mk_c (V : I_V) (z : Bool × Int × List b_E) (zs : List (Bool × Int × List b_E)) : I_mk V (z :: zs) = (if z.1 = true then I_ens V z.2.2 z.2.1 else []) ++ I_mk V zs := List.flatMap_cons
theorem Z_k_c (z : Bool × Int × List b_E) (zs : List (Bool × Int × List b_E)) : Z_k (z :: zs) = (if z.1 = true then [] else [z.2]) ++ Z_k zs := by
  have h1 : Z_k (z :: zs) = Z_k [z] ++ Z_k zs := Z_k_app [z] zs
  rw [h1, Z_k_1]
theorem I_all_c (V : I_V) (z : Int × List b_E) (ds : List (Int × List b_E)) : I_all V (z :: ds) = I_ens V z.2 z.1 ++ I_all V ds := List.flatMap_cons
theorem I_all_split (V : I_V) : ∀ zs : List (Bool × Int × List b_E), (I_all V (zs.map fun z => z.2)).Perm (I_mk V zs ++ I_all V (Z_k zs)) := by
  intro zs
  induction zs with
  | nil => exact List.Perm.refl _
  | cons z zs ih =>
    rw [List.map_cons, I_all_c, I_mk_c, Z_k_c]
    by_cases g : z.1 = true
    · rw [if_pos g, if_pos g, List.append_assoc, List.nil_append]
      exact List.Perm.append_left _ ih
    · rw [if_neg g, if_neg g, List.nil_append]
      have h1 : I_all V ([z.2] ++ Z_k zs) = I_ens V z.2.2 z.2.1 ++ I_all V (Z_k zs) := I_all_c V z.2 (Z_k zs)
      rw [h1]
      refine (List.Perm.append_left _ ih).trans ?_
      refine List.perm_iff_count.mpr fun a => ?_
      simp only [List.count_append]
      omega
theorem I_mk_mem {V : I_V} {zs : List (Bool × Int × List b_E)} {e : I_E} (h : e ∈ I_mk V zs) : ∃ z ∈ zs, z.1 = true ∧ e ∈ I_ens V z.2.2 z.2.1 := by
  obtain ⟨z, hz, h⟩ := List.mem_flatMap.mp h
  by_cases g : z.1 = true
  · rw [if_pos g] at h
    exact ⟨z, hz, g, h⟩
  · rw [if_neg g] at h
    exact absurd h (by simp)
theorem I_pw_perm {V : I_V} (hv : I_vok V) {A B : List I_E} (h : A.Perm B) (hp : A.Pairwise fun a b => I_c V.1 V.2.1 a b ≠ 0) : B.Pairwise fun a b => I_c V.1 V.2.1 a b ≠ 0 := by
  refine h.pairwise hp fun {a b} z g => z ?_
  have := (I_c_T hv.1 hv.2.1).s b a
  omega
/-- the documents of a shelf are good, their numbers differ -/
def H_gd (ds : List (Int × List b_E)) : Prop := (ds.map Prod.fst).Nodup ∧ ∀ z ∈ ds, g_InR z.1 ∧ (b_doc z.2).length ≤ 2000 ∧ X_gd 15 z.2
theorem Z_k_mem {zs : List (Bool × Int × List b_E)} {w : Int × List b_E} (h : w ∈ Z_k zs) : ∃ z ∈ zs, z.1 = false ∧ z.2 = w := by
  obtain ⟨z, hz, rfl⟩ := List.mem_map.mp h
  obtain ⟨h1, h2⟩ := List.mem_filter.mp hz
  refine ⟨z, h1, ?_, rfl⟩
  cases hz1 : z.1
  · rfl
  · rw [hz1] at h2
    exact absurd h2 (by decide)
theorem Z_k_sl (zs : List (Bool × Int × List b_E)) : (Z_k zs).Sublist (zs.map fun z => z.2) := List.filter_sublist.map _
theorem I_ok.out {V : I_V} {zs : List (Bool × Int × List b_E)} {T : N_T I_E} (h : I_ok V (zs.map fun z => z.2) T) (hg : H_gd (zs.map fun z => z.2)) : I_cgo V T (I_mk V zs) ∧ I_ok V (Z_k zs) (I_out V (I_mk V zs) T) := by
  obtain ⟨hv, hT, hp, hlg, hl⟩ := h
  have hsp := I_all_split V zs
  have hpw := I_all_pw hv hg.1
  have hpw2 := I_pw_perm hv hsp hpw
  have hm : ∀ e ∈ I_mk V zs, e ∈ N_all T := fun e he => hp.mem_iff.mpr (hsp.mem_iff.mpr (List.mem_append_left _ he))
  have hpm := (List.pairwise_append.mp hpw2).1
  obtain ⟨g1, g2⟩ := I_out_perm hv hT hm hpm
  refine ⟨⟨fun e he => ?_, fun e he => ⟨e, hm e he, v_T.rf (I_c_T hv.1 hv.2.1) e⟩, hpm, by rw [hp.length_eq]; exact hl⟩, hv, g1, ?_, fun z hz => hlg z (Z_k_sub hz), ?_⟩
  · obtain ⟨z, hz, -, he2⟩ := I_mk_mem he
    have hz2 : z.2 ∈ zs.map fun z => z.2 := List.mem_map.mpr ⟨z, hz, rfl⟩
    obtain ⟨k1, k2, k3⟩ := hg.2 z.2 hz2
    exact I_ens_eg hv k3 k2 (hlg z.2 hz2) k1 e he2
  · exact (List.perm_append_left_iff _).mp ((g2.symm.trans hp).trans hsp)
  · have := hsp.length_eq
    rw [List.length_append] at this
    omega
theorem I_ok.inn {V : I_V} {zs : List (Bool × Int × List b_E)} {T : N_T I_E} (h : I_ok V (Z_k zs) T) (hg : H_gd (zs.map fun z => z.2)) (hlg : ∀ z ∈ zs, I_long V z.2.2 = false) (hl : (I_all V (zs.map fun z => z.2)).length ≤ 1000) : I_can V T (I_mk V zs) ∧ I_ok V (zs.map fun z => z.2) (I_in V (I_mk V zs) T) := by
  obtain ⟨hv, hT, hp, -, -⟩ := h
  have hsp := I_all_split V zs
  have hpw := I_all_pw hv hg.1
  have hpw2 := I_pw_perm hv hsp hpw
  obtain ⟨p1, p2, p3⟩ := List.pairwise_append.mp hpw2
  have hsl := hsp.length_eq
  rw [List.length_append] at hsl
  have hcan : I_can V T (I_mk V zs) := by
    refine ⟨fun e he => ?_, fun e he x hx z => ?_, p1, by rw [hp.length_eq]; omega⟩
    · obtain ⟨z, hz, -, he2⟩ := I_mk_mem he
      obtain ⟨k1, k2, k3⟩ := hg.2 z.2 (List.mem_map.mpr ⟨z, hz, rfl⟩)
      exact I_ens_eg hv k3 k2 (hlg z hz) k1 e he2
    · have h1 := p3 e he x (hp.mem_iff.mp hx)
      have := (I_c_T hv.1 hv.2.1).s x e
      exact h1 (by omega)
  obtain ⟨g1, g2⟩ := I_in_perm hv hT hcan
  refine ⟨hcan, hv, g1, ?_, fun z hz => ?_, hl⟩
  · refine g2.trans (((hp.append_right _).trans ?_).trans hsp.symm)
    exact List.perm_append_comm
  · obtain ⟨w, hw, rfl⟩ := List.mem_map.mp hz
    exact hlg w hw
theorem I_ok.nil {V : I_V} (hv : I_vok V) : I_ok V [] N_nil := ⟨hv, N_nil_good, List.Perm.refl _, fun z hz => absurd hz (by simp), Nat.zero_le _⟩
/-- they fit just if no key is too long, and they are not too many -/
theorem I_num_le {V : I_V} : ∀ {ds : List (List b_E)} {k : Nat}, k + (ds.map (I_num V)).sum ≤ 1000 ↔ (∀ es ∈ ds, I_long V es = false) ∧ k + (ds.map fun es => (I_key1 V es).length * (I_key2 V es).length).sum ≤ 1000 := by
  intro ds
  induction ds with
  | nil => exact fun {k} => ⟨fun h => ⟨fun es he => absurd he (by simp), h⟩, fun h => h.2⟩
  | cons es ds ih =>
    intro k
    rw [List.map_cons, List.sum_cons, List.map_cons, List.sum_cons]
    unfold I_num at ih ⊢
    cases hlg : I_long V es
    · rw [if_neg (by decide)]
      have := @ih (k + (I_key1 V es).length * (I_key2 V es).length)
      rw [← Nat.add_assoc, ← Nat.add_assoc]
      refine this.trans ⟨fun ⟨h1, h2⟩ => ⟨fun e he => ?_, h2⟩, fun ⟨h1, h2⟩ => ⟨fun e he => h1 e (List.mem_cons_of_mem _ he), h2⟩⟩
      rcases List.mem_cons.mp he with g | g
      · rw [g]
        exact hlg
      · exact h1 e g
    · rw [if_pos rfl]
      refine ⟨fun h => by omega, fun h => ?_⟩
      have := h.1 es List.mem_cons_self
      rw [hlg] at this
      exact absurd this (by decide)
theorem I_all_len (V : I_V) (ds : List (Int × List b_E)) : (I_all V ds).length = ((ds.map Prod.snd).map fun es => (I_key1 V es).length * (I_key2 V es).length).sum := by
  induction ds with
  | nil => rfl
  | cons z ds ih => rw [I_all_c, List.length_append, I_ens_len, ih, List.map_cons, List.map_cons, List.sum_cons]
