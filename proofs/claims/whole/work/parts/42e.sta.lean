/-! THE START: both objects as their constructors leave them -/
def zs_E : q_H := zp_EH ++ zp_EL
def zs_ι (a : Nat) : Nat := if a ≤ 1 then 2 * a else if a = 2 then 4 else if a ≤ 15 then 2 * a + 2 else if a ≤ 39 then 2 * a - 6 else if a = 50 then 74 else if a = 51 then 76 else if a = 52 then 88 else if a ≤ 57 then 2 * a - 28 else if a ≤ 67 then 2 * a - 30 else if a = 68 then 274 else if a = 69 then 106 else if a = 70 then 108 else if a = 71 then 112 else if a = 72 then 110 else if a = 73 then 276 else if a = 74 then 278 else if a = 75 then 282 else if a = 76 then 280 else 2 * a + 264
def zs_b (x : Nat) : Nat := if x < 4 then 114 + 40 * x else 124 + 40 * x
def zs_κ (x j : Nat) : Nat := zs_b x + if j < 8 then 2 * j else 2 * j + 20
def zs_f : List Nat := E_bf
def zs_ρ (k : Nat) : Nat := 450 + 2 * (E_bf.idxOf k)
set_option maxRecDepth 100000 in
theorem zs_ok : zs_E.all zm_ok = true := by decide +kernel
theorem zs_Rel : g_Rel zs_E (zm zs_E) := zm_Rel zs_ok
set_option maxRecDepth 100000 in
theorem zs_is : (Ck_l.all fun e => zm_is zs_E (zs_ι e.1) e.2) = true := by decide +kernel
set_option maxRecDepth 100000 in
theorem zs_r : ∀ l ∈ Ck_r, zm_r zs_E (zs_ι l.1) l.2.1 = some (zs_ι l.2.2) := by decide +kernel
set_option maxRecDepth 100000 in
theorem zs_xis : ∀ x : Fin 8, (Ck_xl.all fun e => zm_is zs_E (zs_κ x.val e.1) e.2) = true := by decide +kernel
set_option maxRecDepth 100000 in
theorem zs_xr : ∀ x : Fin 8, (∀ l ∈ Ck_xr, zm_r zs_E (zs_κ x.val l.1) l.2.1 = some (zs_κ x.val l.2.2)) ∧ (zm_r zs_E (zs_κ x.val 0) 0 = some (zs_ι 1) ∧ zm_r zs_E (zs_κ x.val 0) 1 = some (zs_ι 2)) ∧ zm_r zs_E (zs_ι (if x.val < 4 then 71 else 75)) ((x.val % 4 : Nat) : Int) = some (zs_κ x.val 0) := by decide +kernel
theorem zs_bk : C_bk zs_ι zs_κ (zm zs_E) := by
  refine ⟨fun e he => zm_is_s (List.all_eq_true.mp zs_is e he), zs_r, fun x hx => ?_⟩
  obtain ⟨h1, h2, h3⟩ := zs_xr ⟨x, hx⟩
  exact ⟨fun e he => zm_is_s (List.all_eq_true.mp (zs_xis ⟨x, hx⟩) e he), h1, h2, h3⟩
theorem zs_ij1 : ∀ a ∈ Ck_k, ∀ b ∈ Ck_k, zs_ι a = zs_ι b → a = b := by decide +kernel
theorem zs_ij2 : ∀ a ∈ Ck_k, ∀ x : Fin 8, ∀ j : Fin 10, zs_ι a ≠ zs_κ x.val j.val := by decide +kernel
theorem zs_ij : C_ij zs_ι zs_κ := by
  refine ⟨zs_ij1, fun x x2 j j2 hx hx2 hj hj2 e => ?_, fun a ha x j hx hj => zs_ij2 a ha ⟨x, hx⟩ ⟨j, hj⟩⟩
  unfold zs_κ zs_b at e
  constructor
  · split at e <;> split at e <;> split at e <;> split at e <;> omega
  · split at e <;> split at e <;> split at e <;> split at e <;> omega
/-- what a tree has at first -/
def zs_own (x : Nat) : List Nat := zs_κ x 7 :: B_fs.map (fun k => (zm_r zs_E (zs_κ x 7) (k : Nat)).getD 0)
set_option maxRecDepth 100000 in
theorem zs_owr : ∀ x : Fin 8, ∀ k ∈ B_fs, (zm_r zs_E (zs_κ x.val 7) (k : Nat)).isSome = true := by decide +kernel
theorem zs_ow {x y : Nat} (hx : x < 8) : B_own (zs_κ x 7) (zm zs_E) y ↔ y ∈ zs_own x := by
  unfold B_own zs_own
  rw [List.mem_cons, List.mem_map]
  constructor
  · rintro (e | ⟨k, hk, e⟩)
    · exact Or.inl e
    · refine Or.inr ⟨k, hk, ?_⟩
      have e : zm_r zs_E (zs_κ x 7) (k : Nat) = some y := e
      rw [e]
      rfl
  · rintro (e | ⟨k, hk, e⟩)
    · exact Or.inl e
    · refine Or.inr ⟨k, hk, ?_⟩
      have h9 := zs_owr ⟨x, hx⟩ k hk
      have h9 : (zm_r zs_E (zs_κ x 7) (k : Nat)).isSome = true := h9
      show zm_r zs_E (zs_κ x 7) (k : Nat) = some y
      cases hr : zm_r zs_E (zs_κ x 7) (k : Nat) with
      | none =>
        rw [hr] at h9
        exact absurd h9 (by decide)
      | some r =>
        rw [hr] at e
        rw [← e]
        rfl
set_option maxRecDepth 100000 in
theorem zs_dj1 : ∀ x : Fin 8, ∀ a ∈ Ck_k, zs_ι a < 528 ∧ zs_ι a ∉ zs_own x.val := by decide +kernel
set_option maxRecDepth 100000 in
theorem zs_dj2 : ∀ x x2 : Fin 8, ∀ j : Fin 10, j.val ≠ 7 → zs_κ x2.val j.val < 528 ∧ zs_κ x2.val j.val ∉ zs_own x.val := by decide +kernel
set_option maxRecDepth 100000 in
theorem zs_dj3 : ∀ x x2 : Fin 8, x ≠ x2 → ∀ y ∈ zs_own x.val, y ∉ zs_own x2.val := by decide +kernel
set_option maxRecDepth 100000 in
theorem zs_len : (zm zs_E).1.length = 264 ∧ zs_E.length = 264 := by decide +kernel
set_option maxRecDepth 100000 in
theorem zs_sl : g_sl (zm zs_E) = 3234588 := by decide +kernel
