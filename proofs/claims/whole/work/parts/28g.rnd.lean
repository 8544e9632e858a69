/-! TREES OF THE REFERENCE: how many nodes -/
theorem I_cnt {P : Nat → Bool} {L : List Nat} {N : Nat} (hL : L.Nodup) (h : ∀ k, k ∈ L ↔ k < N ∧ P k = true) : ((List.range N).filter P).length = L.length := by
  have h1 : ∀ k, k ∈ (List.range N).filter P ↔ k ∈ L := fun k => by
    rw [List.mem_filter, List.mem_range, h]
  have h2 := I_nd_le (List.nodup_range.filter P) fun k hk => (h1 k).mp hk
  have h3 := I_nd_le hL fun k hk => (h1 k).mpr hk
  omega
/-- the leaves' nodes -/
def V_lns : (h : Nat) → Nat → List (N_i V_W h) → List Nat
  | 0, n, _ => [n]
  | h + 1, _, l => List.flatMap (fun x : N_i V_W (h + 1) => V_lns h (V_n x.1) x.2) l
theorem V_lns_len : ∀ (h n : Nat) (l : List (N_i V_W h)), (V_lns h n l).length = N_lv h l := by
  intro h
  induction h with
  | zero => exact fun _ _ => rfl
  | succ h ih =>
    intro n l
    rw [N_lv_s]
    show (List.flatMap (fun x : N_i V_W (h + 1) => V_lns h (V_n x.1) x.2) l).length = _
    rw [List.length_flatMap]
    congr 1
    exact List.map_congr_left fun x _ => ih _ _
theorem V_lns_sub : ∀ (h n : Nat) (l : List (N_i V_W h)), (V_lns h n l).Sublist (V_ns h n l) := by
  intro h
  induction h with
  | zero => exact fun n l => List.Sublist.refl _
  | succ h ih =>
    intro n l
    refine List.Sublist.cons _ ?_
    show (List.flatMap (fun x : N_i V_W (h + 1) => V_lns h (V_n x.1) x.2) l).Sublist (List.flatMap (fun x : N_i V_W (h + 1) => V_ns h (V_n x.1) x.2) l)
    induction l with
    | nil => exact List.Sublist.refl _
    | cons y l ihl =>
      rw [List.flatMap_cons, List.flatMap_cons]
      exact (ih _ _).append ihl
section RND
variable {m b d x : Nat} {ρ : Nat → Nat} {M : g_M}
theorem V_lns_lf : ∀ {h n : Nat} {l : List (N_i V_W h)}, R_D b ρ x M h n l → (V_ns h n l).Nodup → ∀ j ∈ V_ns h n l, (g_i M (ρ 49) (600 * x + j) = 1 ↔ j ∈ V_lns h n l) := by
  intro h
  induction h with
  | zero =>
    intro n l hD _ j hj
    obtain ⟨-, -, ⟨ps, p1, -⟩, -⟩ := R_D_0.mp hD
    have hj := List.mem_singleton.mp hj
    subst hj
    exact ⟨fun _ => List.mem_singleton.mpr rfl, fun _ => p1.1⟩
  | succ h ih =>
    intro n l hD hnd j hj
    obtain ⟨-, -, ⟨ps, p1, -⟩, -, a5⟩ := R_D_s.mp hD
    rw [V_ns_s] at hj hnd
    obtain ⟨n1, n2⟩ := List.nodup_cons.mp hnd
    have hsub : ∀ y ∈ l, (V_ns h (V_n y.1) y.2).Nodup := fun y hy => by
      obtain ⟨A, B, rfl⟩ := List.append_of_mem hy
      rw [List.flatMap_append, List.flatMap_cons] at n2
      exact (List.nodup_append.mp (List.nodup_append.mp n2).2.1).1
    constructor
    · intro hl
      rcases List.mem_cons.mp hj with g | g
      · rw [g, p1.1] at hl
        exact absurd hl (by decide)
      · obtain ⟨y, hy, g⟩ := List.mem_flatMap.mp g
        exact List.mem_flatMap.mpr ⟨y, hy, (ih (a5 y hy) (hsub y hy) j g).mp hl⟩
    · intro hl
      obtain ⟨y, hy, g⟩ := List.mem_flatMap.mp hl
      exact (ih (a5 y hy) (hsub y hy) j ((V_lns_sub _ _ _).subset g)).mpr g
theorem e_nodes {Q : Int → g_M → Prop} {v2 : Int} {h n : Nat} {l : List (N_i V_W h)} {us : List Nat} (hR : R_rw m b ρ M) (hx : x < 8) (hD : R_D b ρ x M h n l) (hnd : (V_ns h n l).Nodup) (hus : R_us ρ x M us) (hup : us.Perm (V_ns h n l)) (hv : v2 = 0 ∨ v2 = 1) (hq : Q (if v2 = 0 then (V_ns h n l).length else N_lv h l : Nat) M) : g_Call (d + 2) 387 [.ref m, g_n x, g_n v2] M (g_qI Q) := by
  have hvR : g_InR v2 := by rcases hv with g | g <;> rw [g] <;> exact ⟨by decide, by decide⟩
  obtain ⟨r1, r2⟩ := hR.at (k := 48) (by decide)
  have r2 : g_A M (ρ 48) 2 4800 := r2
  obtain ⟨P, hP⟩ : ∃ P : Nat → Bool, P = fun k => decide (k ∈ us ∧ (v2 = 0 ∨ g_i M (ρ 49) (600 * x + k) = 1)) := ⟨_, rfl⟩
  have hPt : ∀ k, P k = true ↔ (k ∈ us ∧ (v2 = 0 ∨ g_i M (ρ 49) (600 * x + k) = 1)) := fun k => by
    rw [hP]
    exact decide_eq_true_iff
  have hids := (R_D_ids hD).1
  have hfin : ((List.range 600).filter P).length = (if v2 = 0 then (V_ns h n l).length else N_lv h l) := by
    rcases hv with g | g
    · rw [if_pos g]
      refine I_cnt hnd fun k => ?_
      rw [hPt, ← hup.mem_iff]
      exact ⟨fun z => ⟨hus.2.2 k z, z, Or.inl g⟩, fun z => z.2.1⟩
    · rw [if_neg (by rw [g]; decide), ← V_lns_len h n l]
      refine I_cnt (hnd.sublist (V_lns_sub h n l)) fun k => ?_
      rw [hPt]
      constructor
      · intro z
        have hk := (V_lns_sub h n l).subset z
        exact ⟨hus.2.2 k (hup.mem_iff.mpr hk), hup.mem_iff.mpr hk, Or.inr ((V_lns_lf hD hnd k hk).mpr z)⟩
      · rintro ⟨-, z1, z2⟩
        have hk := hup.mem_iff.mp z1
        rcases z2 with z2 | z2
        · rw [g] at z2
          exact absurd z2 (by decide)
        · exact (V_lns_lf hD hnd k hk).mp z2
  have hlp : ∀ (r j : Nat), j + r = 600 → g_Run (d + 1) 387 5 [(0, .ref m), (1, g_n x), (2, g_n v2), (3, g_n ((List.range j).filter P).length), (4, g_n j)] [] M (g_qI Q) := by
    intro r
    induction r with
    | zero =>
      intro j hj
      have hj6 : j = 600 := by omega
      have hjl := List.length_filter_le P (List.range j)
      rw [List.length_range] at hjl
      refine s_X12_nodes_5 ⟨by omega, by omega⟩ hvR ⟨by omega, by omega⟩ ⟨by omega, by omega⟩ fun _ => ⟨fun z => absurd z (by omega), fun _ => ?_⟩
      rw [hj6, hfin]
      exact hq
    | succ r ih =>
      intro j hj
      have hjl := List.length_filter_le P (List.range j)
      rw [List.length_range] at hjl
      have hr1 : List.range (j + 1) = List.range j ++ [j] := List.range_succ
      have hno : ¬ P j = true → g_InR (((List.range j).filter P).length + 0 : Int) ∧ g_InR ((j : Int) + 1) ∧ g_Run (d + 1) 387 5 [(0, .ref m), (1, g_n x), (2, g_n v2), (3, g_n ((((List.range j).filter P).length : Int) + 0)), (4, g_n ((j : Int) + 1))] [] M (g_qI Q) := fun hp => by
        refine ⟨⟨by omega, by omega⟩, ⟨by omega, by omega⟩, ?_⟩
        have h9 := ih (j + 1) (by omega)
        rw [hr1, List.filter_append, List.filter_cons_of_neg hp, List.filter_nil, List.append_nil] at h9
        rw [Int.add_zero]
        rwa [show ((j + 1 : Nat) : Int) = (j : Int) + 1 by omega] at h9
      have hyes : P j = true → g_InR (((List.range j).filter P).length + 1 : Int) ∧ g_InR ((j : Int) + 1) ∧ g_Run (d + 1) 387 5 [(0, .ref m), (1, g_n x), (2, g_n v2), (3, g_n ((((List.range j).filter P).length : Int) + 1)), (4, g_n ((j : Int) + 1))] [] M (g_qI Q) := fun hp => by
        refine ⟨⟨by omega, by omega⟩, ⟨by omega, by omega⟩, ?_⟩
        have h9 := ih (j + 1) (by omega)
        rw [hr1, List.filter_append, List.filter_cons_of_pos hp, List.filter_nil, List.length_append, List.length_singleton] at h9
        rwa [show ((j + 1 : Nat) : Int) = (j : Int) + 1 by omega, show ((((List.range j).filter P).length + 1 : Nat) : Int) = (((List.range j).filter P).length : Int) + 1 by omega] at h9
      refine s_X12_nodes_5 ⟨by omega, by omega⟩ hvR ⟨by omega, by omega⟩ ⟨by omega, by omega⟩ fun _ => ⟨fun _ => ⟨hR.1.1, ρ 48, r1, ⟨by omega, by omega⟩, ⟨by omega, by omega⟩, 4800, r2, ⟨by omega, by omega⟩, ?_⟩, fun z => absurd (by omega) z⟩
      rw [show (x : Int) * 600 = 600 * x from Int.mul_comm _ _, hus.1 j (by omega)]
      by_cases g : j ∈ us
      · rw [if_pos g]
        obtain ⟨hf, -⟩ := hids j (hup.mem_iff.mp g)
        refine ⟨fun z => absurd z (by decide), fun _ => ⟨fun z => hyes ((hPt j).mpr ⟨g, Or.inl z⟩), fun z => e_isLeafN (d := d) hR hx (by omega) hf ?_⟩⟩
        intro _ _ _
        refine ⟨fun z2 => hno fun z3 => ?_, fun z2 => hyes ((hPt j).mpr ⟨g, Or.inr (hf.resolve_left z2)⟩)⟩
        rcases ((hPt j).mp z3).2 with z4 | z4
        · exact z z4
        · rw [z2] at z4
          exact absurd z4 (by decide)
      · rw [if_neg g]
        exact ⟨fun _ => hno fun z3 => g ((hPt j).mp z3).1, fun z => absurd rfl z⟩
  refine m_X12_nodes ⟨by omega, by omega⟩ hvR fun _ => ?_
  exact hlp 600 0 rfl
end RND
