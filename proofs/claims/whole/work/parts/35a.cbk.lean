/-! THE CLASS'S HOUSE: the book of its objects and rows -/
def Ck_is (M : g_M) (y : Nat) (s : Bool × Nat × Int) : Prop := if s.1 = true then g_O M y s.2.1 else g_A M y s.2.1 s.2.2
/-- what stands in the book: (number, whether it is an object, its class or type, its length) -/
def Ck_l : List (Nat × Bool × Nat × Int) := [(0, true, 11, 0), (1, true, 7, 0), (2, false, 0, 246408), (3, true, 4, 0), (4, false, 0, 8000), (5, true, 6, 0), (6, true, 2, 0), (7, true, 5, 0), (8, false, 1, 8), (9, false, 1, 8), (10, true, 1, 0), (11, true, 5, 0), (12, false, 1, 8), (13, false, 1, 8), (14, false, 1, 10), (15, true, 4, 0), (20, true, 9, 0), (21, true, 5, 0), (22, false, 1, 8), (23, false, 1, 8), (24, true, 5, 0), (25, false, 1, 8), (26, false, 1, 8), (27, true, 4, 0), (28, true, 4, 0), (29, false, 1, 200), (30, false, 1, 200), (31, false, 1, 200), (32, false, 1, 200), (33, false, 1, 200), (34, false, 5, 4), (35, false, 1, 200), (36, false, 1, 200), (37, false, 1, 200), (38, false, 1, 200), (39, false, 1, 4), (50, true, 0, 0), (51, false, 5, 5), (52, false, 1, 5), (53, false, 1, 2800), (54, false, 1, 2800), (55, false, 1, 2800), (56, false, 1, 2800), (57, false, 1, 2800), (60, true, 5, 0), (61, false, 1, 8), (62, false, 1, 8), (63, true, 5, 0), (64, false, 1, 8), (65, false, 1, 8), (66, false, 4, 2), (67, true, 8, 0), (68, true, 8, 0), (69, false, 1, 200), (70, false, 1, 200), (71, false, 3, 4), (72, true, 4, 0), (73, false, 1, 200), (74, false, 1, 200), (75, false, 3, 4), (76, true, 4, 0), (90, false, 2, 200), (91, false, 1, 200)]
/-- whose field tells of whom -/
def Ck_r : List (Nat × Int × Nat) := [(0, 0, 2), (0, 1, 3), (0, 2, 5), (0, 3, 6), (0, 4, 10), (0, 5, 20), (0, 6, 50), (0, 7, 60), (0, 8, 63), (0, 9, 66), (0, 10, 90), (0, 11, 91), (1, 0, 2), (3, 0, 4), (5, 0, 2), (6, 0, 1), (6, 1, 2), (6, 2, 7), (7, 1, 8), (7, 2, 9), (10, 0, 2), (10, 1, 11), (10, 2, 14), (10, 3, 15), (11, 1, 12), (11, 2, 13), (15, 0, 2), (20, 0, 1), (20, 1, 2), (20, 2, 21), (20, 3, 24), (20, 4, 27), (20, 5, 28), (20, 6, 29), (20, 7, 30), (20, 8, 31), (20, 9, 32), (20, 10, 33), (20, 11, 34), (20, 12, 39), (21, 1, 22), (21, 2, 23), (24, 1, 25), (24, 2, 26), (27, 0, 2), (28, 0, 2), (34, 0, 35), (34, 1, 36), (34, 2, 37), (34, 3, 38), (50, 0, 1), (50, 1, 2), (50, 2, 51), (50, 3, 52), (51, 0, 53), (51, 1, 54), (51, 2, 55), (51, 3, 56), (51, 4, 57), (60, 1, 61), (60, 2, 62), (63, 1, 64), (63, 2, 65), (66, 0, 67), (66, 1, 68), (67, 0, 2), (67, 2, 69), (67, 3, 70), (67, 4, 71), (67, 5, 72), (68, 0, 2), (68, 2, 73), (68, 3, 74), (68, 4, 75), (68, 5, 76), (72, 0, 2), (76, 0, 2)]
/-- an index: itself, two paths with two rows each, its tree, two rows of keys -/
def Ck_xl : List (Nat × Bool × Nat × Int) := [(0, true, 3, 0), (1, true, 5, 0), (2, false, 1, 8), (3, false, 1, 8), (4, true, 5, 0), (5, false, 1, 8), (6, false, 1, 8), (7, true, 10, 0), (8, false, 1, 700), (9, false, 1, 700)]
def Ck_xr : List (Nat × Int × Nat) := [(0, 2, 1), (0, 3, 4), (0, 4, 7), (0, 5, 8), (0, 6, 9), (1, 1, 2), (1, 2, 3), (4, 1, 5), (4, 2, 6)]
def Ck_k : List Nat := Ck_l.map fun e => e.1
/-- the class's objects and rows -/
def C_bk (ι : Nat → Nat) (κ : Nat → Nat → Nat) (M : g_M) : Prop := (∀ e ∈ Ck_l, Ck_is M (ι e.1) e.2) ∧ (∀ l ∈ Ck_r, g_r M (ι l.1) l.2.1 = some (ι l.2.2)) ∧ ∀ x : Nat, x < 8 → (∀ e ∈ Ck_xl, Ck_is M (κ x e.1) e.2) ∧ (∀ l ∈ Ck_xr, g_r M (κ x l.1) l.2.1 = some (κ x l.2.2)) ∧ (g_r M (κ x 0) 0 = some (ι 1) ∧ g_r M (κ x 0) 1 = some (ι 2)) ∧ g_r M (ι (if x < 4 then 71 else 75)) ((x % 4 : Nat) : Int) = some (κ x 0)
/-- all of them are different -/
def C_ij (ι : Nat → Nat) (κ : Nat → Nat → Nat) : Prop := (∀ a ∈ Ck_k, ∀ b ∈ Ck_k, ι a = ι b → a = b) ∧ (∀ x x2 j j2 : Nat, x < 8 → x2 < 8 → j < 10 → j2 < 10 → κ x j = κ x2 j2 → x = x2 ∧ j = j2) ∧ ∀ a ∈ Ck_k, ∀ x j : Nat, x < 8 → j < 10 → ι a ≠ κ x j
section CBK
variable {ι : Nat → Nat} {κ : Nat → Nat → Nat} {M M1 : g_M}
theorem C_bk.O (h : C_bk ι κ M) {k c : Nat} (hk : (k, true, c, 0) ∈ Ck_l) : g_O M (ι k) c := h.1 _ hk
theorem C_bk.A (h : C_bk ι κ M) {k t : Nat} {n : Int} (hk : (k, false, t, n) ∈ Ck_l) : g_A M (ι k) t n := h.1 _ hk
theorem C_bk.r (h : C_bk ι κ M) {a b : Nat} {f : Int} (hl : (a, f, b) ∈ Ck_r) : g_r M (ι a) f = some (ι b) := h.2.1 _ hl
theorem C_bk.xO (h : C_bk ι κ M) {x j c : Nat} (hx : x < 8) (hk : (j, true, c, 0) ∈ Ck_xl) : g_O M (κ x j) c := (h.2.2 x hx).1 _ hk
theorem C_bk.xA (h : C_bk ι κ M) {x j t : Nat} {n : Int} (hx : x < 8) (hk : (j, false, t, n) ∈ Ck_xl) : g_A M (κ x j) t n := (h.2.2 x hx).1 _ hk
theorem C_bk.xr (h : C_bk ι κ M) {x a b : Nat} {f : Int} (hx : x < 8) (hl : (a, f, b) ∈ Ck_xr) : g_r M (κ x a) f = some (κ x b) := (h.2.2 x hx).2.1 _ hl
theorem C_ij.ne (h : C_ij ι κ) {a b : Nat} (ha : a ∈ Ck_k) (hb : b ∈ Ck_k) (hn : a ≠ b) : ι a ≠ ι b := fun z => hn (h.1 a ha b hb z)
theorem C_ij.xne (h : C_ij ι κ) {x x2 j j2 : Nat} (hx : x < 8) (hx2 : x2 < 8) (hj : j < 10) (hj2 : j2 < 10) (hn : ¬ (x = x2 ∧ j = j2)) : κ x j ≠ κ x2 j2 := fun z => hn (h.2.1 x x2 j j2 hx hx2 hj hj2 z)
theorem C_ij.ix (h : C_ij ι κ) {a x j : Nat} (ha : a ∈ Ck_k) (hx : x < 8) (hj : j < 10) : ι a ≠ κ x j := h.2.2 a ha x j hx hj
theorem Ck_is.up {y : Nat} {s : Bool × Nat × Int} (h : Ck_is M y s) (hx : g_ext M M1) : Ck_is M1 y s := by
  unfold Ck_is at h ⊢
  split
  · rename_i g
    rw [if_pos g] at h
    exact h.up hx
  · rename_i g
    rw [if_neg g] at h
    exact h.up hx
theorem C_bk.of (h : C_bk ι κ M) (hx : g_ext M M1) (h1 : ∀ l ∈ Ck_r, g_r M1 (ι l.1) l.2.1 = g_r M (ι l.1) l.2.1) (h2 : ∀ x : Nat, x < 8 → (∀ l ∈ Ck_xr, g_r M1 (κ x l.1) l.2.1 = g_r M (κ x l.1) l.2.1) ∧ (g_r M1 (κ x 0) 0 = g_r M (κ x 0) 0 ∧ g_r M1 (κ x 0) 1 = g_r M (κ x 0) 1)) (h3 : g_r M1 (ι 71) = g_r M (ι 71) ∧ g_r M1 (ι 75) = g_r M (ι 75)) : C_bk ι κ M1 := by
  obtain ⟨a1, a2, a3⟩ := h
  refine ⟨fun e he => (a1 e he).up hx, fun l hl => (h1 l hl).trans (a2 l hl), fun x hx8 => ?_⟩
  obtain ⟨b1, b2, ⟨b3, b4⟩, b5⟩ := a3 x hx8
  obtain ⟨g1, g2, g3⟩ := h2 x hx8
  refine ⟨fun e he => (b1 e he).up hx, fun l hl => (g1 l hl).trans (b2 l hl), ⟨g2.trans b3, g3.trans b4⟩, ?_⟩
  by_cases g : x < 4
  · rw [if_pos g] at b5 ⊢
    rw [h3.1]
    exact b5
  · rw [if_neg g] at b5 ⊢
    rw [h3.2]
    exact b5
theorem C_bk.ef {S : Nat → Int → Prop} (h : C_bk ι κ M) (f : e_fr S M M1) : C_bk ι κ M1 := by
  refine h.of ?_ (fun l _ => f.2.2 _ _) (fun x _ => ⟨fun l _ => f.2.2 _ _, f.2.2 _ _, f.2.2 _ _⟩) ⟨funext fun k => f.2.2 _ _, funext fun k => f.2.2 _ _⟩
  intro a c hc
  rw [f.sh]
  exact hc
/-- what is not the room stays where the work does not reach -/
theorem Ck_no : ∀ e ∈ Ck_l, e.1 ≠ 1 → (e.2.1 = true → e.2.2.1 ≠ 7) ∧ (e.2.1 = false → e.2.2.1 = 1 → e.2.2.2 ≠ 256 ∧ e.2.2.2 ≠ 512 ∧ e.2.2.2 ≠ 1024 ∧ e.2.2.2 ≠ 2048 ∧ e.2.2.2 ≠ 4096 ∧ e.2.2.2 ≠ 8192 ∧ e.2.2.2 ≠ 16384 ∧ e.2.2.2 ≠ 32768) := by decide
theorem Ck_xno : ∀ e ∈ Ck_xl, (e.2.1 = true → e.2.2.1 ≠ 7) ∧ (e.2.1 = false → e.2.2.1 = 1 → e.2.2.2 ≠ 256 ∧ e.2.2.2 ≠ 512 ∧ e.2.2.2 ≠ 1024 ∧ e.2.2.2 ≠ 2048 ∧ e.2.2.2 ≠ 4096 ∧ e.2.2.2 ≠ 8192 ∧ e.2.2.2 ≠ 16384 ∧ e.2.2.2 ≠ 32768) := by decide
theorem Ck_is.sm {S : Nat → Prop} {y r b : Nat} {c e : Int} {L : List Int} {s : Bool × Nat × Int} (h : Ck_is M y s) (hP : k_P M r b c e L) (k : k_F S r M M1) (hS : ¬ S y) (h1 : s.1 = true → s.2.1 ≠ 7) (h2 : s.1 = false → s.2.1 = 1 → s.2.2 ≠ 256 ∧ s.2.2 ≠ 512 ∧ s.2.2 ≠ 1024 ∧ s.2.2 ≠ 2048 ∧ s.2.2 ≠ 4096 ∧ s.2.2 ≠ 8192 ∧ s.2.2 ≠ 16384 ∧ s.2.2 ≠ 32768) : g_i M1 y = g_i M y ∧ g_r M1 y = g_r M y := by
  unfold Ck_is at h
  cases hs : s.1
  · rw [hs, if_neg (by decide)] at h
    refine k.A hP h (fun g => ?_) hS
    have := h2 hs g
    unfold k_n
    omega
  · rw [hs, if_pos rfl] at h
    exact k.O hP h (h1 hs) hS
theorem C_bk.sm {S : Nat → Prop} {c e : Int} {L : List Int} (h : C_bk ι κ M) (hP : k_P M (ι 1) (ι 2) c e L) (k : k_F S (ι 1) M M1) {a : Nat} (ha : a ∈ Ck_k) (h1 : a ≠ 1) (hS : ¬ S (ι a)) : g_i M1 (ι a) = g_i M (ι a) ∧ g_r M1 (ι a) = g_r M (ι a) := by
  obtain ⟨e, he, rfl⟩ := List.mem_map.mp ha
  obtain ⟨n1, n2⟩ := Ck_no e he h1
  exact (h.1 e he).sm hP k hS n1 n2
theorem C_bk.xsm {S : Nat → Prop} {c e : Int} {L : List Int} (h : C_bk ι κ M) (hP : k_P M (ι 1) (ι 2) c e L) (k : k_F S (ι 1) M M1) {x j : Nat} (hx : x < 8) (hj : j < 10) (hS : ¬ S (κ x j)) : g_i M1 (κ x j) = g_i M (κ x j) ∧ g_r M1 (κ x j) = g_r M (κ x j) := by
  have hj2 : j ∈ Ck_xl.map fun e => e.1 := by
    have : ∀ j : Fin 10, j.val ∈ Ck_xl.map fun e => e.1 := by decide
    exact this ⟨j, hj⟩
  obtain ⟨e, he, rfl⟩ := List.mem_map.mp hj2
  obtain ⟨n1, n2⟩ := Ck_xno e he
  exact ((h.2.2 x hx).1 e he).sm hP k hS n1 n2
theorem Ck_r_k : ∀ l ∈ Ck_r, l.1 ∈ Ck_k ∧ (l.1 = 1 → l.2.1 ≠ 1) := by decide
theorem Ck_xr_k : ∀ l ∈ Ck_xr, l.1 < 10 := by decide
/-- the book stays, where what the work reaches tells still of the same -/
theorem C_bk.kF {S : Nat → Prop} {c e : Int} {L : List Int} (h : C_bk ι κ M) (hP : k_P M (ι 1) (ι 2) c e L) (k : k_F S (ι 1) M M1) (hr : ¬ S (ι 1)) (h1 : ∀ l ∈ Ck_r, l.1 ≠ 1 → S (ι l.1) → g_r M1 (ι l.1) l.2.1 = g_r M (ι l.1) l.2.1) (h2 : ∀ x : Nat, x < 8 → (∀ l ∈ Ck_xr, S (κ x l.1) → g_r M1 (κ x l.1) l.2.1 = g_r M (κ x l.1) l.2.1) ∧ (S (κ x 0) → g_r M1 (κ x 0) 0 = g_r M (κ x 0) 0 ∧ g_r M1 (κ x 0) 1 = g_r M (κ x 0) 1)) (h3 : ¬ S (ι 71) ∧ ¬ S (ι 75)) : C_bk ι κ M1 := by
  refine h.of k.1 (fun l hl => ?_) (fun x hx => ⟨fun l hl => ?_, ?_, ?_⟩) ⟨(h.sm hP k (by decide) (by decide) h3.1).2, (h.sm hP k (by decide) (by decide) h3.2).2⟩
  · obtain ⟨g1, g2⟩ := Ck_r_k l hl
    by_cases e1 : l.1 = 1
    · rw [e1]
      exact k.2.2.2.2.1 _ (g2 e1)
    · by_cases hs : S (ι l.1)
      · exact h1 l hl e1 hs
      · rw [(h.sm hP k g1 e1 hs).2]
  · by_cases hs : S (κ x l.1)
    · exact (h2 x hx).1 l hl hs
    · rw [(h.xsm hP k hx (Ck_xr_k l hl) hs).2]
  · by_cases hs : S (κ x 0)
    · exact ((h2 x hx).2 hs).1
    · rw [(h.xsm hP k hx (by decide) hs).2]
  · by_cases hs : S (κ x 0)
    · exact ((h2 x hx).2 hs).2
    · rw [(h.xsm hP k hx (by decide) hs).2]
end CBK
