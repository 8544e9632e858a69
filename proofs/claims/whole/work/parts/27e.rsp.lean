/-! TREES OF THE REFERENCE: a node that has too many is split -/
/-- the mark of an item: for an entry itself -/
def V_mi : (h : Nat) → N_i V_W h → V_W
  | 0, x => x
  | _ + 1, x => x.1
theorem V_mi_f (h : Nat) (z : N_i V_W h) : N_f h (V_er h z) = V_e (V_mi h z) := by cases h <;> rfl
def R_mk : (h : Nat) → List (N_i V_W h) → List (Int × Int) → Prop
  | 0, _, _ => True
  | h + 1, l, ps => ps.tail.map Prod.snd = B_il (V_ts h l)
def R_bl (b : Nat) (ρ : Nat → Nat) (x : Nat) (M : g_M) : (h : Nat) → List (N_i V_W h) → Prop
  | 0, l => ∀ y ∈ l, R_e b ρ x (V_k 0 y) M (V_e y)
  | h + 1, l => (∀ y ∈ l.tail, R_e b ρ x (V_s y.1) M (V_e y.1)) ∧ ∀ y ∈ l, R_D b ρ x M h (V_n y.1) y.2
/-- the nodes below -/
def V_nb : (h : Nat) → List (N_i V_W h) → List Nat
  | 0, _ => []
  | h + 1, l => List.flatMap (fun x : N_i V_W (h + 1) => V_ns h (V_n x.1) x.2) l
theorem V_ns_b (h n : Nat) (l : List (N_i V_W h)) : V_ns h n l = n :: V_nb h l := by cases h <;> rfl
theorem V_nb_app (h : Nat) (A B : List (N_i V_W h)) : V_nb h (A ++ B) = V_nb h A ++ V_nb h B := by
  cases h with
  | zero => rfl
  | succ h => exact List.flatMap_append
/-- the places that may change -/
def R_C (m : Nat) (ρ : Nat → Nat) (x : Nat) (A : Nat → Prop) (y : Nat) (q : Int) : Prop := (∃ k : Nat, A k ∧ (R_nA ρ x k y q ∨ R_nN ρ x k y q)) ∨ (y = m ∧ (q = 55 ∨ q = 56))
def R_us (ρ : Nat → Nat) (x : Nat) (M : g_M) (us : List Nat) : Prop := (∀ k : Nat, k < 600 → g_i M (ρ 48) (600 * x + k) = if k ∈ us then 1 else 0) ∧ us.Nodup ∧ ∀ k ∈ us, k < 600
section RSP
variable {m b d x : Nat} {ρ : Nat → Nat} {M M1 : g_M} {w1 w2 : Int} {dn : Nat}
theorem R_D_u {h n : Nat} {l : List (N_i V_W h)} : R_D b ρ x M h n l ↔ n < 600 ∧ l.length ≤ 9 ∧ (∃ ps, R_no ρ x n M (if h = 0 then 1 else 0) ps ∧ R_ps ps ∧ ps.map Prod.fst = B_il (l.map (V_k h)) ∧ R_mk h l ps) ∧ R_bl b ρ x M h l := by
  cases h with
  | zero =>
    refine R_D_0.trans ⟨fun ⟨a1, a2, ⟨ps, p1, p2, p3⟩, a4⟩ => ⟨a1, a2, ⟨ps, p1, p2, p3, trivial⟩, a4⟩, fun ⟨a1, a2, ⟨ps, p1, p2, p3, _⟩, a4⟩ => ⟨a1, a2, ⟨ps, p1, p2, p3⟩, a4⟩⟩
  | succ h =>
    rw [if_neg (Nat.succ_ne_zero h)]
    exact R_D_s
theorem R_bl.sub {h : Nat} {l l1 : List (N_i V_W h)} (g : R_bl b ρ x M h l) (h1 : ∀ y ∈ l1, y ∈ l) (h2 : ∀ y ∈ l1.tail, y ∈ l.tail) : R_bl b ρ x M h l1 := by
  cases h with
  | zero => exact fun y hy => g y (h1 y hy)
  | succ h => exact ⟨fun y hy => g.1 y (h2 y hy), fun y hy => g.2 y (h1 y hy)⟩
theorem R_bl.fr {S : Nat → Int → Prop} (f : e_fr S M M1) (hE : ∀ y q, R_eA b ρ y q → ¬ S y q) {h : Nat} {l : List (N_i V_W h)} (g : R_bl b ρ x M h l) (hS : ∀ k ∈ V_nb h l, ∀ y q, R_nd ρ x k y q → ¬ S y q) : R_bl b ρ x M1 h l := by
  cases h with
  | zero => exact fun y hy => (g y hy).fr f hE
  | succ h => exact ⟨fun y hy => (g.1 y hy).fr f hE, fun y hy => (g.2 y hy).fr f hE fun k hk => hS k (List.mem_flatMap.mpr ⟨y, hy, hk⟩)⟩
theorem R_C_av (hR : R_rw m b ρ M) {A : Nat → Prop} {k : Nat} (hk : ¬ A k) {y : Nat} {q : Int} (h : R_nd ρ x k y q) : ¬ R_C m ρ x A y q := by
  have n1 := hR.ne (k := 49) (k2 := 51) (by decide) (by decide) (by decide)
  have n2 := hR.ne (k := 49) (k2 := 52) (by decide) (by decide) (by decide)
  have n3 := hR.ne (k := 49) (k2 := 50) (by decide) (by decide) (by decide)
  have n4 := hR.ne (k := 49) (k2 := 48) (by decide) (by decide) (by decide)
  have n5 := hR.ne (k := 50) (k2 := 51) (by decide) (by decide) (by decide)
  have n6 := hR.ne (k := 50) (k2 := 52) (by decide) (by decide) (by decide)
  have n7 := hR.ne (k := 50) (k2 := 48) (by decide) (by decide) (by decide)
  have n8 := hR.ne (k := 48) (k2 := 51) (by decide) (by decide) (by decide)
  have n9 := hR.ne (k := 48) (k2 := 52) (by decide) (by decide) (by decide)
  have hm : ∀ {i : Nat}, i ∈ R_fs → ρ i ≠ m := fun hi => hR.nm hi
  have hnk : ∀ k' : Nat, A k' → k' ≠ k := fun k' h1 h2 => hk (h2 ▸ h1)
  rintro (⟨k', hA, z⟩ | ⟨z, -⟩)
  · have hne := hnk k' hA
    rcases h with (⟨h1, h2, h3⟩ | ⟨h1, h2⟩) | ⟨h1, h2⟩
    · rcases z with (⟨z1, z2, z3⟩ | ⟨z1, z2⟩) | ⟨z1, z2⟩
      · omega
      · rcases h1 with h1 | h1 <;> rw [h1] at z1
        · exact n5 z1.symm
        · exact n6 z1.symm
      · rcases h1 with h1 | h1 <;> rcases z1 with z1 | z1 | z1 <;> rw [h1] at z1
        · exact n8 z1.symm
        · exact n1 z1.symm
        · exact n5 z1.symm
        · exact n9 z1.symm
        · exact n2 z1.symm
        · exact n6 z1.symm
    · rcases z with (⟨z1, z2, z3⟩ | ⟨z1, z2⟩) | ⟨z1, z2⟩
      · rcases z1 with z1 | z1 <;> rw [h1] at z1
        · exact n5 z1
        · exact n6 z1
      · omega
      · omega
    · rcases z with (⟨z1, z2, z3⟩ | ⟨z1, z2⟩) | ⟨z1, z2⟩
      · rcases z1 with z1 | z1 <;> rw [h1] at z1
        · exact n1 z1
        · exact n2 z1
      · exact n3 (h1.symm.trans z1)
      · omega
  · rcases h with (⟨h1, -⟩ | ⟨h1, -⟩) | ⟨h1, -⟩
    · rcases h1 with h1 | h1 <;> rw [h1] at z
      · exact hm (by decide) z
      · exact hm (by decide) z
    · exact hm (by decide) (h1.symm.trans z)
    · exact hm (by decide) (h1.symm.trans z)
theorem R_C_eA (hR : R_rw m b ρ M) {A : Nat → Prop} {y : Nat} {q : Int} (h : R_eA b ρ y q) : ¬ R_C m ρ x A y q := by
  have hb : ∀ {i : Nat}, i ∈ R_fs → ρ i ≠ b := fun hi => hR.nb hi
  have h46 : ∀ {i : Nat}, i ∈ R_fs → i ≠ 46 → ρ i ≠ ρ 46 := fun hi hn => hR.ne hi (by decide) hn
  have hall : ∀ {i : Nat}, i ∈ R_fs → i ≠ 46 → y ≠ ρ i := fun hi hn z => by
    rcases h with h | h
    · exact hb hi (z.symm.trans h)
    · exact h46 hi hn (z.symm.trans h)
  rintro (⟨k', -, z⟩ | ⟨z, -⟩)
  · rcases z with (⟨z1 | z1, -⟩ | ⟨z1, -⟩) | ⟨z1 | z1 | z1, -⟩
    · exact hall (by decide) (by decide) z1
    · exact hall (by decide) (by decide) z1
    · exact hall (by decide) (by decide) z1
    · exact hall (by decide) (by decide) z1
    · exact hall (by decide) (by decide) z1
    · exact hall (by decide) (by decide) z1
  · rcases h with h | h
    · exact g_neOA hR.1.1 hR.1.2.2 (z.symm.trans h)
    · exact hR.nm (k := 46) (by decide) (h.symm.trans z)
theorem R_us.free {us : List Nat} (h : R_us ρ x M us) (hl : us.length < 600) : ∃ n : Nat, n < 600 ∧ g_i M (ρ 48) (600 * x + n) = 0 := by
  by_cases hex : ∃ n : Nat, n < 600 ∧ n ∉ us
  · obtain ⟨n, h1, h2⟩ := hex
    refine ⟨n, h1, ?_⟩
    rw [h.1 n h1, if_neg h2]
  · exfalso
    have h3 := I_nd_le (l := List.range 600) (m := us) List.nodup_range fun k hk => by
      by_cases g : k ∈ us
      · exact g
      · exact absurd ⟨k, List.mem_range.mp hk, g⟩ hex
    rw [List.length_range] at h3
    omega
theorem R_us.nA {us : List Nat} {A : Nat → Prop} (hR : R_rw m b ρ M) (h : R_us ρ x M us) (f : e_fr (fun y q => ∃ k : Nat, A k ∧ R_nA ρ x k y q) M M1) : R_us ρ x M1 us := by
  have n1 := hR.ne (k := 48) (k2 := 51) (by decide) (by decide) (by decide)
  have n2 := hR.ne (k := 48) (k2 := 52) (by decide) (by decide) (by decide)
  have n3 := hR.ne (k := 48) (k2 := 50) (by decide) (by decide) (by decide)
  refine ⟨fun k hk => ?_, h.2⟩
  rw [f.2.1 (ρ 48) _ fun z => ?_]
  · exact h.1 k hk
  · obtain ⟨k', -, z⟩ := z
    rcases z with ⟨z | z, -⟩ | ⟨z, -⟩
    · exact n1 z
    · exact n2 z
    · exact n3 z
theorem R_us.nN {us : List Nat} {k : Nat} (h : R_us ρ x M us) (hk : k < 600) (hn : k ∉ us) (f : e_fr (R_nN ρ x k) M M1) (h1 : g_i M1 (ρ 48) (600 * x + k) = 1) : R_us ρ x M1 (k :: us) := by
  refine ⟨fun j hj => ?_, List.nodup_cons.mpr ⟨hn, h.2.1⟩, fun j hj => ?_⟩
  · by_cases g : j = k
    · rw [g, h1, if_pos List.mem_cons_self]
    · rw [f.2.1 (ρ 48) _ fun z => g (by have := z.2; omega), h.1 j hj]
      by_cases g2 : j ∈ us
      · rw [if_pos g2, if_pos (List.mem_cons_of_mem _ g2)]
      · rw [if_neg g2, if_neg fun z => (List.mem_cons.mp z).elim g g2]
  · rcases List.mem_cons.mp hj with g | g
    · rw [g]
      exact hk
    · exact h.2.2 j g
end RSP
