/-! WHAT A REQUEST DOES, PURE: the state is sound -/
def W_ok (S : W_S) : Prop := ∀ w, w < 2 → H_gd (S.2.1 w) ∧ (∀ x, 4 * w ≤ x → x < 4 * w + 4 → ∀ V T m1 m2, S.1 x = some (V, T, m1, m2) → I_ok V (S.2.1 w) T) ∧ (∀ z ∈ S.2.1 w, 0 ≤ z.1 ∧ z.1 ≤ S.2.2 w) ∧ 0 ≤ S.2.2 w
theorem Z_f_2 (ds : List (Int × List b_E)) : (Z_f ds).map (fun z => z.2) = ds := by
  unfold Z_f
  rw [List.map_map]
  exact List.map_id' ds
theorem Z_f_k : ∀ ds : List (Int × List b_E), Z_k (Z_f ds) = ds
  | [] => rfl
  | z :: ds => by
    have e : Z_f (z :: ds) = [(false, z)] ++ Z_f ds := rfl
    rw [e, Z_k_app, Z_k_1, Z_f_k ds]
    rfl
/-- one more document's number is new -/
theorem H_gd.add {ds : List (Int × List b_E)} {g : Int} {es : List b_E} (h : H_gd ds) (hle : ∀ z ∈ ds, 0 ≤ z.1 ∧ z.1 ≤ g) (hg : 0 ≤ g ∧ g ≤ 1000000) (hl : (b_doc es).length ≤ 2000) (he : X_gd 15 es) : H_gd (ds ++ [(g + 1, es)]) := by
  refine ⟨?_, fun z hz => ?_⟩
  · rw [List.map_append, List.map_cons, List.map_nil]
    refine List.nodup_append.mpr ⟨h.1, by simp, fun a ha b hb => ?_⟩
    obtain ⟨z, hz, rfl⟩ := List.mem_map.mp ha
    have := hle z hz
    rw [List.mem_singleton.mp hb]
    omega
  · rcases List.mem_append.mp hz with g1 | g1
    · exact h.2 z g1
    · rw [List.mem_singleton.mp g1]
      exact ⟨⟨by show -2147483648 ≤ g + 1; omega, by show g + 1 ≤ 2147483647; omega⟩, hl, he⟩
theorem I_ok.add {V : I_V} {T : N_T I_E} {ds : List (Int × List b_E)} {g : Int} {es : List b_E} (h : I_ok V ds T) (hg : H_gd (ds ++ [(g, es)])) : (N_all T).length ≤ 1000 ∧ ((N_all T).length + I_num V es ≤ 1000 → I_can V T (I_ens V es g) ∧ I_ok V (ds ++ [(g, es)]) (I_in V (I_ens V es g) T)) := by
  have hl : (N_all T).length = (I_all V ds).length := h.2.2.1.length_eq
  refine ⟨by have := h.2.2.2.2; omega, fun hn => ?_⟩
  have hlong : I_long V es = false := by
    cases e : I_long V es
    · rfl
    · unfold I_num at hn
      rw [if_pos e] at hn
      omega
  have hnum : I_num V es = (I_key1 V es).length * (I_key2 V es).length := by
    unfold I_num
    rw [hlong]
    exact if_neg (by decide)
  have e2 : ((Z_f ds ++ [(true, g, es)]).map fun z => z.2) = ds ++ [(g, es)] := by
    rw [List.map_append, Z_f_2]
    rfl
  have ek : Z_k (Z_f ds ++ [(true, g, es)]) = ds := by
    rw [Z_k_app, Z_f_k, Z_k_1, if_pos rfl, List.append_nil]
  have h9 := I_ok.inn (V := V) (zs := Z_f ds ++ [(true, g, es)]) (T := T) (by rw [ek]; exact h) (by rw [e2]; exact hg) (fun z hz => ?_) ?_
  · rw [Z_f_mk1, e2] at h9
    exact h9
  · rcases List.mem_append.mp hz with g1 | g1
    · obtain ⟨y, hy, rfl⟩ := List.mem_map.mp g1
      exact h.2.2.2.1 y hy
    · rw [List.mem_singleton.mp g1]
      exact hlong
  · rw [e2, I_all_len, List.map_append, List.map_append, List.sum_append]
    rw [I_all_len] at hl
    have e3 : ((([(g, es)] : List (Int × List b_E)).map Prod.snd).map fun es => (I_key1 V es).length * (I_key2 V es).length).sum = (I_key1 V es).length * (I_key2 V es).length := by simp
    rw [e3, ← hl, ← hnum]
    exact hn
theorem T_pl_lo {n : Nat} {os : List (List b_E)} : ∀ (zs : List (Int × b_E)) (ds : List (List b_E)), (∀ z ∈ zs, 0 ≤ z.1) → (T_pl n os zs ds).1.1 ≠ 0 → 0 ≤ (T_pl n os zs ds).1.2 := by
  intro zs
  induction zs with
  | nil => exact fun ds _ h => absurd rfl h
  | cons z r ih =>
    intro ds hz h
    have h0 := hz z List.mem_cons_self
    cases hf : T_fe z.2 with
    | some e =>
      by_cases g : ((K_F 20).1 (L_ch (z.1 + 6 + z.2.2.1.length) e) 0).1 = 0
      · rw [T_pl_fg hf g] at h ⊢
        exact ih _ (fun y hy => hz y (List.mem_cons_of_mem _ hy)) h
      · rw [T_pl_ff hf g]
        exact (K_F_G (lo := 0) 20).1 (L_ch (z.1 + 6 + z.2.2.1.length) e) 0 (L_ch_lo (z := (z.1 + 6 + z.2.2.1.length, e)) (by show 0 ≤ z.1 + 6 + (z.2.2.1.length : Int); omega)) g
    | none =>
      by_cases g : (T_st n os z.2 ds).1 = 0
      · rw [T_pl_sg hf g] at h ⊢
        exact ih _ (fun y hy => hz y (List.mem_cons_of_mem _ hy)) h
      · rw [T_pl_sf hf g]
        exact h0
