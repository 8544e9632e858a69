/-! TREES OF THE CLASS: trees without their nodes and slots -/
section NPRE
variable {E : Type} (c : E → E → Int)
/-- a node with what came, ahead of its own splitting -/
def N_pre (e : E) : (h : Nat) → List (N_i E h) → List (N_i E h)
  | 0, l => N_pi l (N_pl c e (N_es l)) e
  | h + 1, l => match l.drop (N_dn c e h l) with
    | [] => l
    | x :: B => N_ca (l.take (N_dn c e h l)) x (N_come c e h x.2) B
theorem N_pre_0 (e : E) (l : List (N_i E 0)) : N_pre c e 0 l = N_pi l (N_pl c e (N_es l)) e := rfl
theorem N_pre_s (e : E) {h : Nat} {A : List (N_i E (h + 1))} {x : N_i E (h + 1)} {B : List (N_i E (h + 1))} (hA : A.length = N_dn c e h (A ++ x :: B)) : N_pre c e (h + 1) (A ++ x :: B) = N_ca A x (N_come c e h x.2) B := by
  have h1 : (A ++ x :: B).drop (N_dn c e h (A ++ x :: B)) = x :: B := by rw [← hA, List.drop_left]
  have h2 : (A ++ x :: B).take (N_dn c e h (A ++ x :: B)) = A := by rw [← hA, List.take_left]
  show (match (A ++ x :: B).drop (N_dn c e h (A ++ x :: B)) with
    | [] => A ++ x :: B
    | x_1 :: B_1 => N_ca ((A ++ x :: B).take (N_dn c e h (A ++ x :: B))) x_1 (N_come c e h x_1.2) B_1) = _
  rw [h1, h2]
theorem N_come_pre (e : E) {h : Nat} {l : List (N_i E h)} (hl : 0 < h → l ≠ []) : N_come c e h l = N_spl h (N_pre c e h l) := by
  cases h with
  | zero => rfl
  | succ h =>
    obtain ⟨A, x, B, hs, hA⟩ := N_dn_split c e (hl (by omega))
    subst hs
    rw [N_come_s c e hA, N_pre_s c e hA]
end NPRE
section VER
theorem V_er_f : ∀ (h : Nat) (x : N_i V_W h), N_f h (V_er h x) = V_e (N_f h x) := by
  intro h x
  cases h <;> rfl
theorem V_er_s (h : Nat) (x : N_i V_W (h + 1)) : V_er (h + 1) x = N_mk h (V_e x.1) (x.2.map (V_er h)) := rfl
theorem V_er_mk (h : Nat) (m : V_W) (l : List (N_i V_W h)) : V_er (h + 1) (N_mk h m l) = N_mk h (V_e m) (l.map (V_er h)) := rfl
theorem V_er_dm {w1 w2 : Int} (e : V_W) : ∀ r : List V_W, N_dm (I_c w1 w2) (V_e e) (r.map V_e) = N_dm (V_c w1 w2) e r := by
  intro r
  induction r with
  | nil => rfl
  | cons m r ih =>
    show (if I_c w1 w2 (V_e m) (V_e e) ≤ 0 then N_dm (I_c w1 w2) (V_e e) (r.map V_e) + 1 else 0) = if I_c w1 w2 (V_e m) (V_e e) ≤ 0 then N_dm (V_c w1 w2) e r + 1 else 0
    rw [ih]
theorem V_er_dn {w1 w2 : Int} (e : V_W) (h : Nat) (l : List (N_i V_W (h + 1))) : N_dn (I_c w1 w2) (V_e e) h (l.map (V_er (h + 1))) = N_dn (V_c w1 w2) e h l := by
  unfold N_dn
  rw [← V_er_dm]
  unfold N_ms
  rw [← List.map_tail, List.map_map, List.map_map]
  rfl
theorem V_er_pl {w1 w2 : Int} (e : V_W) : ∀ r : List V_W, N_pl (I_c w1 w2) (V_e e) (r.map V_e) = N_pl (V_c w1 w2) e r := by
  intro r
  induction r with
  | nil => rfl
  | cons m r ih =>
    show (if I_c w1 w2 (V_e m) (V_e e) < 0 then N_pl (I_c w1 w2) (V_e e) (r.map V_e) + 1 else 0) = if I_c w1 w2 (V_e m) (V_e e) < 0 then N_pl (V_c w1 w2) e r + 1 else 0
    rw [ih]
theorem V_er_fl : ∀ {h : Nat} {l : List (N_i V_W h)}, N_fl h l ↔ N_fl h (l.map (V_er h)) := by
  intro h
  induction h with
  | zero => exact fun {l} => Iff.rfl
  | succ h ih =>
    intro l
    rw [N_fl_s, N_fl_s]
    constructor
    · intro k x hx
      obtain ⟨y, hy, rfl⟩ := List.mem_map.mp hx
      obtain ⟨k1, k2⟩ := k y hy
      rw [V_er_s, N_mk_2, List.length_map]
      exact ⟨k1, ih.mp k2⟩
    · intro k x hx
      have := k (V_er (h + 1) x) (List.mem_map.mpr ⟨x, hx, rfl⟩)
      rw [V_er_s, N_mk_2, List.length_map] at this
      exact ⟨this.1, ih.mpr this.2⟩
theorem V_er_in : ∀ (h : Nat) (x : N_i V_W h), N_in h (V_er h x) = (N_in h x).map V_e := by
  intro h
  induction h with
  | zero => exact fun x => rfl
  | succ h ih =>
    intro x
    show (x.2.map (V_er h)).flatMap (N_in h) = (x.2.flatMap (N_in h)).map V_e
    rw [List.flatMap_map, List.map_flatMap]
    congr 1
    funext y
    exact ih y
theorem V_er_ins (h : Nat) (l : List (N_i V_W h)) : N_ins h (l.map (V_er h)) = (N_ins h l).map V_e := by
  unfold N_ins
  rw [List.flatMap_map, List.map_flatMap]
  congr 1
  funext y
  exact V_er_in h y
theorem V_er_lv : ∀ (h : Nat) (l : List (N_i V_W h)), N_lv h (l.map (V_er h)) = N_lv h l := by
  intro h
  induction h with
  | zero => exact fun l => rfl
  | succ h ih =>
    intro l
    rw [N_lv_s, N_lv_s, List.map_map]
    congr 1
    refine List.map_congr_left fun x _ => ?_
    exact ih x.2
theorem N_lv_app {E : Type} (h : Nat) (l t : List (N_i E (h + 1))) : N_lv (h + 1) (l ++ t) = N_lv (h + 1) l + N_lv (h + 1) t := by
  rw [N_lv_s, N_lv_s, N_lv_s, List.map_append, List.sum_append]
theorem N_lv_c {E : Type} (h : Nat) (x : N_i E (h + 1)) (t : List (N_i E (h + 1))) : N_lv (h + 1) (x :: t) = N_lv h x.2 + N_lv (h + 1) t := by
  rw [N_lv_s, N_lv_s, List.map_cons, List.sum_cons]
theorem N_lv_cut (h : Nat) (l : List (N_i V_W h)) : (N_lv h (l.take 4) + N_lv h (l.drop 4) : Int) = N_lv h l + V_f h := by
  cases h with
  | zero => rfl
  | succ h =>
    have : N_lv (h + 1) l = N_lv (h + 1) (l.take 4) + N_lv (h + 1) (l.drop 4) := by rw [← N_lv_app, List.take_append_drop]
    rw [this]
    show _ = _ + (0 : Int)
    omega
/-- how many nodes: those of the class's tree -/
theorem V_ns_len : ∀ (h n : Nat) (l : List (N_i V_W h)), (V_ns h n l).length = N_lv h l + N_im h l := by
  intro h
  induction h with
  | zero => exact fun n l => rfl
  | succ h ih =>
    intro n l
    rw [V_ns_e, List.length_cons]
    have : ∀ l : List (N_i V_W (h + 1)), (V_nk (h + 1) l).length = (l.map fun x : N_i V_W (h + 1) => N_lv h x.2).sum + (l.map fun x : N_i V_W (h + 1) => N_im h x.2).sum := by
      intro l
      induction l with
      | nil => rfl
      | cons x r ih2 =>
        rw [V_nk_c, List.length_append, ih, ih2, List.map_cons, List.map_cons, List.sum_cons, List.sum_cons]
        omega
    rw [this, N_lv_s, N_im_s]
    omega
theorem V_us_len : ∀ (h : Nat) (l : List (N_i V_W h)), (V_us h l).length = (N_ins h l).length + N_mk2 h l := by
  intro h
  induction h with
  | zero =>
    intro l
    rw [V_us_0, List.length_map]
    show l.length = (N_ins 0 l).length + 0
    induction l with
    | nil => rfl
    | cons x r ih =>
      rw [N_ins_c, List.length_append, List.length_cons, ih]
      show _ = 1 + _ + 0
      omega
  | succ h ih =>
    intro l
    rw [V_us_k, List.length_append, V_ts_len, N_mk2_s]
    have : ∀ l : List (N_i V_W (h + 1)), (V_uk h l).length = (N_ins (h + 1) l).length + (l.map fun x : N_i V_W (h + 1) => N_mk2 h x.2).sum := by
      intro l
      induction l with
      | nil => rfl
      | cons x r ih2 =>
        rw [V_uk_c, List.length_append, ih, ih2, N_ins_c, List.length_append, N_in_s, List.map_cons, List.sum_cons]
        omega
    rw [this]
    omega
theorem V_er_mk2 : ∀ (h : Nat) (l : List (N_i V_W h)), N_mk2 h (l.map (V_er h)) = N_mk2 h l := by
  intro h
  induction h with
  | zero => exact fun l => rfl
  | succ h ih =>
    intro l
    rw [N_mk2_s, N_mk2_s, List.map_map, List.length_map]
    congr 2
    refine List.map_congr_left fun x _ => ?_
    exact ih x.2
theorem V_er_im : ∀ (h : Nat) (l : List (N_i V_W h)), N_im h (l.map (V_er h)) = N_im h l := by
  intro h
  induction h with
  | zero => exact fun l => rfl
  | succ h ih =>
    intro l
    rw [N_im_s, N_im_s, List.map_map]
    congr 2
    refine List.map_congr_left fun x _ => ?_
    exact ih x.2
end VER
