/-! TREES: how many nodes, marks and levels -/
section NTK
variable {E : Type}
/-- leaves below a node -/
def N_lv : (h : Nat) → List (N_i E h) → Nat
  | 0, _ => 1
  | h + 1, l => (List.map (fun x : N_i E (h + 1) => N_lv h x.2) l).sum
/-- inner nodes -/
def N_im : (h : Nat) → List (N_i E h) → Nat
  | 0, _ => 0
  | h + 1, l => 1 + (List.map (fun x : N_i E (h + 1) => N_im h x.2) l).sum
/-- marks -/
def N_mk2 : (h : Nat) → List (N_i E h) → Nat
  | 0, _ => 0
  | h + 1, l => (l.length - 1) + (List.map (fun x : N_i E (h + 1) => N_mk2 h x.2) l).sum
theorem N_lv_s (h : Nat) (l : List (N_i E (h + 1))) : N_lv (h + 1) l = (l.map fun x : N_i E (h + 1) => N_lv h x.2).sum := rfl
theorem N_im_s (h : Nat) (l : List (N_i E (h + 1))) : N_im (h + 1) l = 1 + (l.map fun x : N_i E (h + 1) => N_im h x.2).sum := rfl
theorem N_mk2_s (h : Nat) (l : List (N_i E (h + 1))) : N_mk2 (h + 1) l = (l.length - 1) + (l.map fun x : N_i E (h + 1) => N_mk2 h x.2).sum := rfl
theorem N_lv_pos : ∀ (h : Nat) (l : List (N_i E h)), N_fl h l → (0 < h → l ≠ []) → 1 ≤ N_lv h l := by
  intro h
  induction h with
  | zero => exact fun _ _ _ => Nat.le_refl 1
  | succ h ih =>
    intro l hf hl
    cases l with
    | nil => exact absurd rfl (hl (by omega))
    | cons x r =>
      obtain ⟨⟨h1, h2⟩, h3⟩ := N_fl_c.mp hf
      rw [N_lv_s, List.map_cons, List.sum_cons]
      have := ih x.2 h2 fun _ z => by rw [z, List.length_nil] at h1; omega
      omega
theorem N_cnt_len : ∀ (h : Nat) (l : List (N_i E h)), N_fl h l → 4 ^ h * l.length ≤ (N_ins h l).length ∧ (0 < h → 4 * N_lv h l ≤ (N_ins h l).length) ∧ (0 < h → 3 * N_im h l + l.length ≤ N_lv h l + 3) ∧ (l ≠ [] → N_mk2 h l + 1 = N_lv h l) := by
  intro h
  induction h with
  | zero =>
    intro l _
    refine ⟨?_, fun z => absurd z (by decide), fun z => absurd z (by decide), fun _ => rfl⟩
    have : ∀ l : List (N_i E 0), (N_ins 0 l).length = l.length := fun l => by
      induction l with
      | nil => rfl
      | cons x r ih =>
        rw [N_ins_c, List.length_append, ih, List.length_cons]
        show 1 + r.length = r.length + 1
        omega
    rw [this, Nat.pow_zero]
    omega
  | succ h ih =>
    intro l
    have key : ∀ l : List (N_i E (h + 1)), N_fl (h + 1) l → 4 ^ (h + 1) * l.length ≤ (N_ins (h + 1) l).length ∧ 4 * N_lv (h + 1) l ≤ (N_ins (h + 1) l).length ∧ 3 * (l.map fun x : N_i E (h + 1) => N_im h x.2).sum + l.length ≤ N_lv (h + 1) l ∧ (l.map fun x : N_i E (h + 1) => N_mk2 h x.2).sum + l.length = N_lv (h + 1) l := by
      intro l
      induction l with
      | nil => exact fun _ => ⟨by simp, by simp [N_lv_s], by simp [N_lv_s], by simp [N_lv_s]⟩
      | cons x r ih2 =>
        intro hf
        obtain ⟨⟨⟨h1, h1'⟩, h2⟩, h3⟩ := N_fl_c.mp hf
        obtain ⟨i1, i2, i3, i4⟩ := ih2 h3
        obtain ⟨j1, j2, j3, j4⟩ := ih x.2 h2
        have hxn : x.2 ≠ [] := fun z => by rw [z, List.length_nil] at h1; omega
        have j5 := j4 hxn
        have hm : 4 ^ h * 4 ≤ 4 ^ h * x.2.length := Nat.mul_le_mul_left _ h1
        have hx4 : 4 * N_lv h x.2 ≤ (N_ins h x.2).length ∧ 3 * N_im h x.2 + 1 ≤ N_lv h x.2 := by
          cases h with
          | zero =>
            refine ⟨?_, Nat.le_refl 1⟩
            have h7 : 4 ^ 0 * x.2.length ≤ (N_ins 0 x.2).length := j1
            rw [Nat.pow_zero] at h7
            show 4 * 1 ≤ _
            omega
          | succ h =>
            have k1 := j2 (by omega)
            have k2 := j3 (by omega)
            exact ⟨k1, by omega⟩
        rw [N_ins_c, List.length_append, N_in_s, List.length_cons, N_lv_s, List.map_cons, List.sum_cons, List.map_cons, List.sum_cons, List.map_cons, List.sum_cons]
        rw [N_lv_s] at i2 i3 i4
        refine ⟨?_, by omega, by omega, by omega⟩
        rw [Nat.pow_succ] at i1 ⊢
        rw [Nat.mul_add]
        omega
    intro hf
    obtain ⟨k1, k2, k3, k4⟩ := key l hf
    refine ⟨k1, fun _ => k2, fun _ => ?_, fun hl => ?_⟩
    · rw [N_im_s]
      omega
    · have := List.length_pos_iff.mpr hl
      rw [N_mk2_s]
      omega
/-- how great a tree of so many entries is at most -/
theorem N_size {c : E → E → Int} {t : N_T E} (ht : N_good c t) (hn : (N_all t).length ≤ 1001) : t.1 ≤ 4 ∧ N_lv t.1 t.2 ≤ 251 ∧ N_mk2 t.1 t.2 ≤ 250 ∧ N_lv t.1 t.2 + N_im t.1 t.2 ≤ 335 ∧ 1 ≤ N_lv t.1 t.2 := by
  obtain ⟨h, l⟩ := t
  obtain ⟨k1, k2, k3, k4⟩ := ht
  change (N_ins h l).length ≤ 1001 at hn
  change N_fl h l at k2
  change l.length ≤ 8 at k3
  show h ≤ 4 ∧ N_lv h l ≤ 251 ∧ N_mk2 h l ≤ 250 ∧ N_lv h l + N_im h l ≤ 335 ∧ 1 ≤ N_lv h l
  obtain ⟨c1, c2, c3, c4⟩ := N_cnt_len h l k2
  cases h with
  | zero => exact ⟨by omega, by show 1 ≤ 251; omega, by show 0 ≤ 250; omega, by show 1 + 0 ≤ 335; omega, Nat.le_refl 1⟩
  | succ h =>
    have l2 := k4 (Nat.succ_pos h)
    change 2 ≤ l.length at l2
    have c5 := c4 fun z => by rw [z, List.length_nil] at l2; omega
    have c6 := c2 (by omega)
    have c7 := c3 (by omega)
    refine ⟨?_, by omega, by omega, by omega, by omega⟩
    by_cases g : h + 1 ≤ 4
    · exact g
    · have h1 : 4 ^ 5 ≤ 4 ^ (h + 1) := Nat.pow_le_pow_right (by decide) (by omega)
      have h2 : 4 ^ (h + 1) * 2 ≤ 4 ^ (h + 1) * l.length := Nat.mul_le_mul_left _ l2
      omega
end NTK
