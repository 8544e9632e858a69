/-! THE START: what stands -/
def zs_S : W_S := (fun _ => none, fun _ => [], fun _ => 0)
set_option maxRecDepth 100000 in
theorem zs_i1 : (zm_i zs_E 4 0 = 10 ∧ zm_i zs_E 4 1 = 0 ∧ zm_i zs_E 4 2 = 3 ∧ zm_i zs_E 4 3 = 0) ∧ (zm_i zs_E 2 2 = 0 ∧ zm_r zs_E 2 1 = some 6 ∧ zm_is zs_E 6 (false, 1, 256) = true) ∧ (zm_i zs_E 8 1 = 0 ∧ zm_i zs_E 0 12 = 0) ∧ (zm_i zs_E 104 1 = 2008 ∧ zm_i zs_E 104 6 = 0 ∧ zm_i zs_E 104 7 = 0 ∧ zm_i zs_E 104 8 = 0 ∧ zm_i zs_E 104 9 = 2008) ∧ (zm_i zs_E 274 1 = 42408 ∧ zm_i zs_E 274 6 = 0 ∧ zm_i zs_E 274 7 = 0 ∧ zm_i zs_E 274 8 = 0 ∧ zm_i zs_E 274 9 = 42408) := by decide +kernel
set_option maxRecDepth 100000 in
theorem zs_i2 : ∀ x : Fin 8, zm_i zs_E (zs_κ x.val 0) 9 = 0 ∧ (B_fs.all fun k => match zm_r zs_E (zs_κ x.val 7) (k : Nat) with
  | some a => zm_is zs_E a (false, B_ty k, if k = 10 ∨ k = 11 then 16 else 0)
  | none => false) = true ∧ ∀ k ∈ B_fs, ∀ k2 ∈ B_fs, zm_r zs_E (zs_κ x.val 7) (k : Nat) = zm_r zs_E (zs_κ x.val 7) (k2 : Nat) → k = k2 := by decide +kernel
theorem zs_ok0 : S_ok [] := ⟨by decide, by decide, fun es hes => absurd hes (by simp)⟩
theorem zs_t0 {x : Nat} (hx : x < 8) : C_t0 (zs_κ x 7) 0 0 (zm zs_E) := by
  obtain ⟨-, h2, h3⟩ := zs_i2 ⟨x, hx⟩
  refine ⟨(fun k => if k = 10 ∨ k = 11 then 16 else 0, fun k q => g_i (zm zs_E) ((g_r (zm zs_E) (zs_κ x 7) (k : Nat)).getD 0) q, fun k => g_i (zm zs_E) (zs_κ x 7) k), ⟨zs_bk.xO hx (by decide), fun k => rfl, fun k hk => ?_, h3⟩, ⟨rfl, rfl, rfl, by decide⟩, ⟨rfl, rfl, rfl, rfl, rfl, by decide⟩, rfl, rfl⟩
  have h4 := List.all_eq_true.mp h2 k hk
  cases hr : zm_r zs_E (zs_κ x 7) (k : Nat) with
  | none =>
    rw [show zm_r zs_E (zs_κ (⟨x, hx⟩ : Fin 8).val 7) (k : Nat) = none from hr] at h4
    exact absurd (show false = true from h4) (by decide)
  | some a =>
    rw [show zm_r zs_E (zs_κ (⟨x, hx⟩ : Fin 8).val 7) (k : Nat) = some a from hr] at h4
    have h5 : g_A (zm zs_E) a (B_ty k) (if k = 10 ∨ k = 11 then 16 else 0) := zm_is_s (show zm_is zs_E a (false, B_ty k, if k = 10 ∨ k = 11 then 16 else 0) = true from h4)
    refine ⟨a, hr, h5, fun q _ _ => ?_⟩
    show g_i (zm zs_E) a q = g_i (zm zs_E) ((zm_r zs_E (zs_κ x 7) (k : Nat)).getD 0) q
    rw [hr]
    rfl
theorem zs_H : C_H zs_ι zs_κ (fun _ => (4, 4)) (fun _ => (0, 0)) 3234076 8 zs_S.1 zs_S.2.1 zs_S.2.2 (zm zs_E) := by
  obtain ⟨⟨b0, b1, b2, b3⟩, ⟨p1, p2, p3⟩, -, ⟨s1, s2, s3, s4, s5⟩, ⟨u1, u2, u3, u4, u5⟩⟩ := zs_i1
  have hb := zs_bk
  have hsh : ∀ w : Nat, w < 2 → H_sf (zs_ι (67 + w)) (zs_ι 2) (zs_ι (69 + 4 * w)) (zs_ι (70 + 4 * w)) (2008 + 40400 * (w : Int)) [] 0 (zm zs_E) := fun w hw => by
    have hw2 : w = 0 ∨ w = 1 := by omega
    rcases hw2 with e | e
    · subst e
      exact ⟨⟨hb.O (k := 67) (by decide), hb.r (a := 67) (f := 0) (b := 2) (by decide), hb.r (a := 67) (f := 2) (b := 69) (by decide), hb.r (a := 67) (f := 3) (b := 70) (by decide), hb.A (k := 69) (by decide), hb.A (k := 70) (by decide), by decide, hb.A (k := 2) (by decide)⟩, ⟨s1, by decide, by decide⟩, ⟨s2, s3, s4, s5⟩, ⟨b_nil _ _, b_nil _ _, b_nil _ _⟩, zs_ok0, fun z hz => absurd hz (by simp)⟩
    · subst e
      exact ⟨⟨hb.O (k := 68) (by decide), hb.r (a := 68) (f := 0) (b := 2) (by decide), hb.r (a := 68) (f := 2) (b := 73) (by decide), hb.r (a := 68) (f := 3) (b := 74) (by decide), hb.A (k := 73) (by decide), hb.A (k := 74) (by decide), by decide, hb.A (k := 2) (by decide)⟩, ⟨u1, by decide, by decide⟩, ⟨u2, u3, u4, u5⟩, ⟨b_nil _ _, b_nil _ _, b_nil _ _⟩, zs_ok0, fun z hz => absurd hz (by simp)⟩
  have h6 := zm_is_s p3
  unfold Ck_is at h6
  rw [if_neg (by decide)] at h6
  refine ⟨hb, zs_ij, ⟨hb.O (k := 1) (by decide), hb.r (a := 1) (f := 0) (b := 2) (by decide), 6, 256, p2, h6, p1, by decide, Or.inl rfl, ?_, ?_, b_nil _ _⟩, ?_, hsh, fun x hx => ⟨zs_t0 hx, (zs_i2 ⟨x, hx⟩).1⟩, fun x hx y hy => ?_, fun x x2 hx hx2 hn y hy hy2 => ?_⟩
  · rw [zs_sl]
    rfl
  · rw [zs_len.1]
    decide
  · exact b_cons.mpr ⟨b0, b_cons.mpr ⟨b1, b_cons.mpr ⟨b2, b_cons.mpr ⟨b3, b_nil _ _⟩⟩⟩⟩
  · rw [zs_len.1, zs_ow hx]
    rcases hy with ⟨a, ha, e⟩ | ⟨x2, j, hx2, hj, hn, e⟩ | ⟨x2, hx2, e⟩
    · rw [e]
      exact zs_dj1 ⟨x, hx⟩ a ha
    · rw [e]
      exact zs_dj2 ⟨x, hx⟩ ⟨x2, hx2⟩ ⟨j, hj⟩ hn
    · have e4 : y = zs_ι 2 := by
        rcases e with e | e
        · exact e
        · exact e
      rw [e4]
      exact zs_dj1 ⟨x, hx⟩ 2 (by decide)
  · rw [zs_ow hx] at hy
    rw [zs_ow hx2] at hy2
    exact zs_dj3 ⟨x, hx⟩ ⟨x2, hx2⟩ (fun z => hn (congrArg Fin.val z)) y hy hy2
set_option maxRecDepth 100000 in
theorem zs_e1 : (E_bf.all fun k => decide (zm_r zs_E 448 (k : Nat) = some (zs_ρ k)) && zm_is zs_E (zs_ρ k) (false, E_bt k, E_bl k)) = true := by decide +kernel
theorem zs_e2 : ∀ k ∈ E_bf, ∀ k2 ∈ E_bf, zs_ρ k = zs_ρ k2 → k = k2 := by decide +kernel
set_option maxRecDepth 100000 in
theorem zs_e3 : zm_is zs_E 448 (true, 12, 0) = true ∧ (zm_i zs_E 448 47 = -1 ∧ zm_i zs_E 448 40 = 0 ∧ zm_i zs_E 448 24 = 0 ∧ zm_i zs_E 448 3 = 0 ∧ zm_i zs_E 448 2 = 0) ∧ (zm_i zs_E 450 2706200 = 10 ∧ zm_i zs_E 450 2706201 = 0) ∧ (∀ x : Fin 8, zm_i zs_E 470 (x.val : Nat) = 0) ∧ (∀ w : Fin 2, zm_i zs_E 510 (w.val : Nat) = 0 ∧ zm_i zs_E 512 (w.val : Nat) = 0 ∧ zm_i zs_E 514 (w.val : Nat) = 1) := by decide +kernel
theorem zs_at {i : Nat} {e : q_E} (h : ((zs_E[i]?).map fun x => q_eqE x e) = some true) : zs_E[i]? = some e := by
  obtain ⟨x, hx, h2⟩ := Option.map_eq_some_iff.mp h
  rw [hx, q_eqE_s h2]
set_option maxRecDepth 100000 in
theorem zs_73 : zs_E[260]? = some (.inl (2, 400, .inl [])) := zs_at (by decide +kernel)
theorem zs_W : E_W 448 zs_ρ zs_S (fun _ => []) (zm zs_E) := by
  obtain ⟨o, ⟨f47, f40, f24, -, -⟩, ⟨n0, n1⟩, hix, hsh⟩ := zs_e3
  have h73 := zs_73
  have ho := zm_is_s o
  unfold Ck_is at ho
  rw [if_pos rfl] at ho
  have hbk : E_bk 448 zs_ρ (zm zs_E) := by
    refine ⟨ho, fun k hk => ?_, zs_e2⟩
    have h1 := List.all_eq_true.mp zs_e1 k hk
    rw [Bool.and_eq_true, decide_eq_true_eq] at h1
    have h2 : g_A (zm zs_E) (zs_ρ k) (E_bt k) (E_bl k) := zm_is_s h1.2
    exact ⟨h1.1, h2⟩
  have z73 : ∀ s : Int, zm_i zs_E 520 s = 0 := fun s => by
    have h9 := (zm_i_2 (i := 260) h73 s).1
    rw [show (520 : Nat) = 2 * 260 from rfl, h9]
    unfold zm_ie
    split <;> rfl
  refine ⟨⟨hbk, f47, b_cons.mpr ⟨n0, b_cons.mpr ⟨n1, b_nil _ _⟩⟩, fun x hx => hix ⟨x, hx⟩, fun w hw => ?_⟩, Or.inl f40, Or.inl f24, fun w _ => rfl⟩
  obtain ⟨a1, a2, a3⟩ := hsh ⟨w, hw⟩
  exact ⟨⟨hw, a1, a2, a3⟩, List.nodup_nil, fun i z hz => absurd hz (by simp), fun s _ _ => (z73 s).trans (if_neg (by simp)).symm, zs_ok0⟩
theorem zs_W_ok : W_ok zs_S := fun w hw => ⟨⟨List.nodup_nil, fun z hz => absurd hz (by show ¬ z ∈ []; simp)⟩, fun x _ _ V T m1 m2 h => absurd h (by show ¬ none = some _; simp), fun z hz => absurd hz (by show ¬ z ∈ []; simp), Int.le_refl 0⟩
set_option maxRecDepth 100000 in
theorem zs_z1 : zp_EH.all (zm_rs fun r => r % 2 == 1 || decide (r < 448)) = true ∧ zp_EL.all (zm_rs fun r => r % 2 == 1 || (decide (448 ≤ r) && decide (r < 528))) = true ∧ zp_EH.length = 224 ∧ zp_EL.length = 40 := by decide +kernel
theorem zs_Z : Z_E zs_E := by
  obtain ⟨h1, h2, h3, h4⟩ := zs_z1
  have hlen : zs_E.length = 264 := zs_len.2
  refine ⟨fun i e hi hn => ?_, fun i e hi hn => ?_, by omega⟩
  · rw [hlen]
    have hlt : i < zs_E.length := (List.getElem?_eq_some_iff.mp hi).1
    have hi2 : i < 224 := by
      unfold Zc at hn
      omega
    have he : zp_EH[i]? = some e := by
      unfold zs_E at hi
      rwa [List.getElem?_append_left (by omega)] at hi
    refine zm_rs_s (List.all_eq_true.mp h1 e (List.mem_of_getElem? he)) fun r hr hr2 => ?_
    rw [Bool.or_eq_true, beq_iff_eq, decide_eq_true_eq] at hr
    unfold Zc
    omega
  · rw [hlen]
    have hlt : i < zs_E.length := (List.getElem?_eq_some_iff.mp hi).1
    have hi2 : 224 ≤ i := by
      unfold Zm at hn
      omega
    have he : zp_EL[i - 224]? = some e := by
      unfold zs_E at hi
      rw [List.getElem?_append_right (by omega), h3] at hi
      exact hi
    refine zm_rs_s (List.all_eq_true.mp h2 e (List.mem_of_getElem? he)) fun r hr hr2 => ?_
    rw [Bool.or_eq_true, Bool.and_eq_true, beq_iff_eq, decide_eq_true_eq, decide_eq_true_eq] at hr
    unfold Zm
    omega
theorem zs_P1 : (∀ a ∈ Ck_k, zs_ι a < 448) ∧ (∀ x : Fin 8, ∀ j : Fin 10, zs_κ x.val j.val < 448) ∧ ∀ k ∈ E_bf, zs_ρ k % 2 = 0 ∧ 448 ≤ zs_ρ k ∧ zs_ρ k < 528 := by decide +kernel
theorem zs_P : Z_P zs_ι zs_κ zs_ρ := by
  obtain ⟨h1, h2, h3⟩ := zs_P1
  refine ⟨rfl, fun a ha z => ?_, fun x j hx hj z => ?_, fun k hk => ?_⟩
  · have := h1 a ha
    have := z.2.1
    omega
  · have h9 := h2 ⟨x, hx⟩ ⟨j, hj⟩
    have h9 : zs_κ x j < 448 := h9
    have := z.2.1
    omega
  · obtain ⟨k1, k2, k3⟩ := h3 k hk
    exact ⟨k1, by omega, by omega⟩
/-- both constructors done -/
theorem zs_I : Z_I 0 zs_E 3234588 := by
  obtain ⟨-, -, ⟨i1, i2⟩, -, -⟩ := zs_i1
  obtain ⟨-, ⟨-, -, -, f3, f2⟩, -⟩ := zs_e3
  exact ⟨by decide, zm zs_E, zs_ι, zs_κ, zs_ρ, fun _ => (4, 4), fun _ => (0, 0), 3234076, 8, zs_S, fun _ => [], [], fun _ => 0, 0, zs_Rel, zs_sl, ⟨zs_H, ⟨i1, by decide, b_nil _ _⟩, i2, by decide, by decide, fun q q0 q1 => absurd q1 (by omega)⟩, ⟨zs_W, ⟨f3, by decide, b_nil _ _⟩, f2, by decide, by decide, fun q q0 q1 => absurd q1 (by omega)⟩, zs_P, zs_Z, ⟨by decide, by decide⟩, zs_W_ok, fun w _ => Int.le_refl 0⟩
