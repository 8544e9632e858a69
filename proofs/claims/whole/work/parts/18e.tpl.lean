/-! STAGES: a pipeline, one stage after another -/
def T_ok (w : Int) : Prop := 0 ≤ w ∧ w ≤ 5
theorem T_okc {w : Int} (h : 0 ≤ w ∧ w ≤ 5) : T_ok w := h
theorem T_ok_i {c : Prop} {_ : Decidable c} {x y : Int} (hx : T_ok x) (hy : T_ok y) : T_ok (if c then x else y) := by
  split
  · exact hx
  · exact hy
theorem T_ok_S_pfL : ∀ l, T_ok (S_pfL l)
  | [] => T_okc (w := 0) (by decide)
  | e :: r => by
    unfold S_pfL
    exact T_ok_i (T_ok_i (T_okc (by decide)) (T_ok_S_pfL r)) (T_okc (by decide))
theorem T_ok_S_pf (e : b_E) : T_ok (S_pf e) := T_ok_i (T_ok_i (T_okc (by decide)) (T_ok_S_pfL _)) (T_okc (by decide))
theorem T_ok_G_gfL : ∀ l, T_ok (G_gfL l)
  | [] => T_okc (w := 0) (by decide)
  | x :: r => by
    have h9 := T_ok_G_gfL r
    show T_ok (G_g1 x (G_gfL r))
    unfold G_g1 G_m1
    refine T_ok_i ?_ (T_okc (by decide))
    split
    · unfold G_gx
      exact T_ok_i (T_ok_i (T_okc (by decide)) h9) (T_okc (by decide))
    · exact T_okc (by decide)
theorem T_ok_G_gf (e : b_E) : T_ok (G_gf e) := by
  unfold G_gf
  refine T_ok_i ?_ (T_okc (by decide))
  split
  · exact T_okc (by decide)
  · exact T_ok_i (T_ok_i (T_okc (by decide)) (T_ok_G_gfL _)) (T_okc (by decide))
theorem T_ok_O_so : ∀ l, T_ok (O_so l)
  | [] => T_okc (w := 0) (by decide)
  | x :: r => by
    unfold O_so
    exact T_ok_i (T_ok_i (T_ok_O_so r) (T_okc (by decide))) (T_okc (by decide))
theorem T_ok_O_sf (e : b_E) : T_ok (O_sf e) := T_ok_i (T_ok_O_so _) (T_okc (by decide))
theorem T_ok_J_sf (e : b_E) : T_ok (J_sf e) := by
  unfold J_sf J_3
  refine T_ok_i ?_ (T_okc (by decide))
  split
  · exact T_ok_i (T_ok_i (T_okc (by decide)) (T_okc (by decide))) (T_okc (by decide))
  · exact T_okc (by decide)
theorem T_ok_T_f (e : b_E) : T_ok (T_f e) := T_ok_i (T_ok_S_pf e) (T_ok_i (T_ok_i (T_okc (by decide)) (T_ok_i (T_okc (by decide)) (T_okc (by decide)))) (T_ok_i (T_ok_G_gf e) (T_ok_i (T_ok_O_sf e) (T_ok_i (T_ok_i (T_okc (by decide)) (T_okc (by decide))) (T_ok_i (T_ok_J_sf e) (T_okc (by decide)))))))
theorem T_ok_T_b (ds : List (List b_E)) : T_ok (T_b ds).1 := by
  by_cases h : S_bad ds
  · rw [T_b_1 h]
    exact T_okc (w := 5) (by decide)
  · rw [T_b_0 h]
    exact T_okc (w := 0) (by decide)
theorem T_ok_T_m (n : Nat) (os : List (List b_E)) (e : b_E) (ds : List (List b_E)) : T_ok (T_m n os e ds).1 := by
  have h0 : ∀ ms : List (List b_E), T_ok ((0, ms) : Int × List (List b_E)).1 := fun ms => T_okc (w := 0) (by decide)
  unfold T_m
  split
  · exact T_ok_T_b _
  split
  · exact T_ok_T_b _
  split
  · split
    · exact T_okc (w := 4) (by decide)
    · exact T_ok_T_b _
  split
  · exact h0 _
  split
  · exact h0 _
  split
  · exact h0 _
  exact T_ok_T_b _
theorem T_ok_T_st (n : Nat) (os : List (List b_E)) (it : b_E) (ds : List (List b_E)) : T_ok (T_st n os it ds).1 := by
  unfold T_st
  split
  · split
    · exact T_ok_T_m _ _ _ _
    · exact T_ok_T_f _
  · exact T_okc (w := 1) (by decide)
/-- what a pipeline tells: the fault and its place, or the documents -/
noncomputable def T_pl (n : Nat) (os : List (List b_E)) : List (Int × b_E) → List (List b_E) → (Int × Int) × List (List b_E)
  | [], ds => ((0, 0), ds)
  | z :: zs, ds => match T_fe z.2 with
    | some e => if ((K_F 20).1 (L_ch (z.1 + 6 + z.2.2.1.length) e) 0).1 = 0 then T_pl n os zs (ds.filter fun es => (F_X 20).1 (b_ch e.2.2) (3, [], b_doc es)) else ((10 + ((K_F 20).1 (L_ch (z.1 + 6 + z.2.2.1.length) e) 0).1, ((K_F 20).1 (L_ch (z.1 + 6 + z.2.2.1.length) e) 0).2.1), [])
    | none => if (T_st n os z.2 ds).1 = 0 then T_pl n os zs (T_st n os z.2 ds).2 else ((30 + (T_st n os z.2 ds).1, z.1), [])
section TPL
variable {n : Nat} {os ds : List (List b_E)} {z : Int × b_E} {zs : List (Int × b_E)} {e : b_E}
theorem T_pl_ff (h : T_fe z.2 = some e) (h0 : ((K_F 20).1 (L_ch (z.1 + 6 + z.2.2.1.length) e) 0).1 ≠ 0) : T_pl n os (z :: zs) ds = ((10 + ((K_F 20).1 (L_ch (z.1 + 6 + z.2.2.1.length) e) 0).1, ((K_F 20).1 (L_ch (z.1 + 6 + z.2.2.1.length) e) 0).2.1), []) := by
  unfold T_pl
  rw [h]
  exact if_neg h0
theorem T_pl_fg (h : T_fe z.2 = some e) (h0 : ((K_F 20).1 (L_ch (z.1 + 6 + z.2.2.1.length) e) 0).1 = 0) : T_pl n os (z :: zs) ds = T_pl n os zs (ds.filter fun es => (F_X 20).1 (b_ch e.2.2) (3, [], b_doc es)) := by
  conv => lhs; unfold T_pl
  rw [h]
  exact if_pos h0
theorem T_pl_sf (h : T_fe z.2 = none) (h0 : (T_st n os z.2 ds).1 ≠ 0) : T_pl n os (z :: zs) ds = ((30 + (T_st n os z.2 ds).1, z.1), []) := by
  unfold T_pl
  rw [h]
  exact if_neg h0
theorem T_pl_sg (h : T_fe z.2 = none) (h0 : (T_st n os z.2 ds).1 = 0) : T_pl n os (z :: zs) ds = T_pl n os zs (T_st n os z.2 ds).2 := by
  conv => lhs; unfold T_pl
  rw [h]
  exact if_pos h0
/-- the same, s further on -/
theorem T_pl_S (s : Int) : ∀ (zs : List (Int × b_E)) (ds : List (List b_E)), (T_pl n os (zs.map (L_sh s)) ds).1.1 = (T_pl n os zs ds).1.1 ∧ (T_pl n os (zs.map (L_sh s)) ds).2 = (T_pl n os zs ds).2 ∧ ((T_pl n os zs ds).1.1 ≠ 0 → (T_pl n os (zs.map (L_sh s)) ds).1.2 = (T_pl n os zs ds).1.2 + s) := by
  intro zs
  induction zs with
  | nil => exact fun ds => ⟨rfl, rfl, fun z => absurd rfl z⟩
  | cons z zs ih =>
    intro ds
    rw [List.map_cons]
    cases hf : T_fe z.2 with
    | none =>
      have hf2 : T_fe (L_sh s z).2 = none := hf
      by_cases h0 : (T_st n os z.2 ds).1 = 0
      · rw [T_pl_sg hf h0, T_pl_sg hf2 h0]
        exact ih _
      · rw [T_pl_sf hf h0, T_pl_sf hf2 h0]
        exact ⟨rfl, rfl, fun _ => rfl⟩
    | some e =>
      have hf2 : T_fe (L_sh s z).2 = some e := hf
      have hL : L_ch ((L_sh s z).1 + 6 + (L_sh s z).2.2.1.length) e = (L_ch (z.1 + 6 + z.2.2.1.length) e).map (L_sh s) := by
        rw [← L_ch_sh]
        show L_ch (z.1 + s + 6 + z.2.2.1.length) e = _
        rw [show z.1 + s + 6 + (z.2.2.1.length : Int) = z.1 + 6 + z.2.2.1.length + s by omega]
      obtain ⟨k1, k2, k3⟩ := (K_F_S s 20).1 (L_ch (z.1 + 6 + z.2.2.1.length) e) 0
      rw [← hL] at k1 k2 k3
      by_cases h0 : ((K_F 20).1 (L_ch (z.1 + 6 + z.2.2.1.length) e) 0).1 = 0
      · rw [T_pl_fg hf h0, T_pl_fg hf2 (k1.trans h0)]
        exact ih _
      · rw [T_pl_ff hf h0, T_pl_ff hf2 (fun z => h0 (k1.symm.trans z))]
        exact ⟨by show 10 + _ = 10 + _; rw [k1], rfl, fun _ => k3 h0⟩
end TPL
