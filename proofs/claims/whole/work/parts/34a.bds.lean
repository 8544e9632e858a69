/-! EXPLAIN, THE CLASS: its sets of intervals; one comes -/
theorem g_i_ws (N : g_M) (a : Nat) (j v k : Int) : g_i (g_wi N a j v) a k = if k = j then v else g_i N a k := by
  rw [g_i_wi]
  by_cases g : k = j
  · rw [if_pos ⟨rfl, g⟩, if_pos g]
  · rw [if_neg (fun z => g z.2), if_neg g]
theorem g_i_wo {N : g_M} {a c : Nat} {j v k : Int} (h : c ≠ a) : g_i (g_wi N a j v) c k = g_i N c k := by
  rw [g_i_wi, if_neg (fun z => h z.1)]
/-- the class's Bounds object: room, bytes, the sets' rows, the row of their counts -/
def Bd_o (o rm b ss cn : Nat) (r : Nat → Nat) (M : g_M) : Prop := g_O M o 0 ∧ (g_r M o 0 = some rm ∧ g_r M o 1 = some b ∧ g_r M o 2 = some ss ∧ g_r M o 3 = some cn) ∧ g_A M ss 5 5 ∧ g_A M cn 1 5 ∧ (∀ k : Nat, k < 5 → g_r M ss k = some (r k) ∧ g_A M (r k) 1 2800) ∧ ∀ i j : Nat, i < 5 → j < 5 → r i = r j → i = j
def Bd_F (cn : Nat) (r : Nat → Nat) (T : Nat → Prop) (y : Nat) (k : Int) : Prop := (y = cn ∧ ∃ j : Nat, T j ∧ k = j) ∨ ∃ j : Nat, j < 5 ∧ T j ∧ y = r j
def Bd_in (a b : Bool) : Int := (if a = true then 1 else 0) + (if b = true then 2 else 0)
/-- set s holds these intervals -/
def Bd_S (cn : Nat) (r : Nat → Nat) (s : Nat) (A : List D_i) (M : g_M) : Prop := g_i M cn s = A.length ∧ ∀ (i : Nat) (x : D_i), A[i]? = some x → g_i M (r s) ((i : Int) * 4) = x.1 ∧ g_i M (r s) ((i : Int) * 4 + 1) = L_opt x.2.1 ∧ g_i M (r s) ((i : Int) * 4 + 2) = L_opt x.2.2.2.1 ∧ g_i M (r s) ((i : Int) * 4 + 3) = Bd_in x.2.2.1 x.2.2.2.2
def Bd_at (F : Int → Int) (n : Int) (e : D_e) : Prop := (1 ≤ e.1 ∧ e.1 ≤ 6) ∧ (e.2.1 = 1 → b_st F n e.2.2.1 20 e.2.2.2.1 e.2.2.2.2.1 e.2.2.2.2.2 ∧ b_cl e.2.2.2.1 = e.1 ∧ e.2.2.2.2.2.length ≤ 199000)
def Bd_io (F : Int → Int) (n : Int) (x : D_i) : Prop := Bd_at F n (D_lo x) ∧ Bd_at F n (D_hi x)
theorem Bd_in_R (a b : Bool) : g_InR (Bd_in a b) := by cases a <;> cases b <;> exact ⟨by decide, by decide⟩
section BDA
variable {o rm b ss cn d : Nat} {r : Nat → Nat} {n : Int} {M M1 : g_M} {A : List D_i}
theorem Bd_o.fr {S : Nat → Int → Prop} (h : Bd_o o rm b ss cn r M) (f : e_fr S M M1) : Bd_o o rm b ss cn r M1 := by
  obtain ⟨k1, ⟨q1, q2, q3, q4⟩, A1, A2, hr, hi⟩ := h
  exact ⟨f.O k1, ⟨by rw [f.2.2]; exact q1, by rw [f.2.2]; exact q2, by rw [f.2.2]; exact q3, by rw [f.2.2]; exact q4⟩, f.A A1, f.A A2, fun k hk => ⟨by rw [f.2.2]; exact (hr k hk).1, f.A (hr k hk).2⟩, hi⟩
theorem Bd_o.cr (h : Bd_o o rm b ss cn r M) {k : Nat} (hk : k < 5) : cn ≠ r k := fun z => by
  have h1 := (h.2.2.2.2.1 k hk).2
  rw [← z] at h1
  exact absurd (h.2.2.2.1.fn h1).2 (by decide)
/-- where the sets don't stand -/
theorem Bd_F_A (h : Bd_o o rm b ss cn r M) {T : Nat → Prop} {y t : Nat} {l k : Int} (hA : g_A M y t l) (ht : t = 1 → l ≠ 5 ∧ l ≠ 2800) : ¬ Bd_F cn r T y k := by
  rintro (⟨z, -⟩ | ⟨j, hj, -, z⟩)
  · rw [z] at hA
    have h2 := h.2.2.2.1.fn hA
    exact (ht h2.1.symm).1 h2.2.symm
  · rw [z] at hA
    have h2 := (h.2.2.2.2.1 j hj).2.fn hA
    exact (ht h2.1.symm).2 h2.2.symm
theorem Bd_F_O (h : Bd_o o rm b ss cn r M) {T : Nat → Prop} {y c : Nat} {k : Int} (hO : g_O M y c) : ¬ Bd_F cn r T y k := by
  rintro (⟨z, -⟩ | ⟨j, hj, -, z⟩)
  · exact g_neOA hO h.2.2.2.1 z
  · exact g_neOA hO (h.2.2.2.2.1 j hj).2 z
theorem Bd_F_up {T U : Nat → Prop} (hTU : ∀ j, T j → U j) {y : Nat} {k : Int} (h : Bd_F cn r T y k) : Bd_F cn r U y k := by
  rcases h with ⟨z, j, hj, e⟩ | ⟨j, hj, hT, e⟩
  · exact Or.inl ⟨z, j, hTU j hj, e⟩
  · exact Or.inr ⟨j, hj, hTU j hT, e⟩
theorem Bd_S.fr {T : Nat → Prop} {s : Nat} (hS : Bd_S cn r s A M) (h : Bd_o o rm b ss cn r M) (f : e_fr (Bd_F cn r T) M M1) (hs : s < 5) (hT : ¬ T s) : Bd_S cn r s A M1 := by
  have n1 : ¬ Bd_F cn r T cn s := by
    rintro (⟨-, j, hj, e⟩ | ⟨j, hj, -, e⟩)
    · have : j = s := by omega
      exact hT (this ▸ hj)
    · exact h.cr hj e
  have n2 : ∀ k, ¬ Bd_F cn r T (r s) k := by
    rintro k (⟨z, -⟩ | ⟨j, hj, hTj, e⟩)
    · exact h.cr hs z.symm
    · have : s = j := h.2.2.2.2.2 s j hs hj e
      exact hT (this ▸ hTj)
  refine ⟨by rw [f.2.1 _ _ n1]; exact hS.1, fun i x hi => ?_⟩
  rw [f.2.1 _ _ (n2 _), f.2.1 _ _ (n2 _), f.2.1 _ _ (n2 _), f.2.1 _ _ (n2 _)]
  exact hS.2 i x hi
theorem c_addTo {Q : g_M → Prop} {s : Nat} {x : D_i} {v2 v3 v4 v5 : Int} (h : Bd_o o rm b ss cn r M) (hs : s < 5) (hA : Bd_S cn r s A M) (hl : A.length < 700) (e2 : v2 = x.1) (e3 : v3 = L_opt x.2.1) (e4 : v4 = L_opt x.2.2.2.1) (e5 : v5 = Bd_in x.2.2.1 x.2.2.2.2) (h2 : g_InR v2) (h3 : g_InR v3) (h4 : g_InR v4) (hq : ∀ M1, e_fr (Bd_F cn r (fun j => j = s)) M M1 → Bd_S cn r s (A ++ [x]) M1 → Q M1) : g_Call (d + 1) 13 [.ref o, g_n (s : Int), g_n v2, g_n v3, g_n v4, g_n v5] M (g_qV Q) := by
  obtain ⟨k1, ⟨q1, q2, q3, q4⟩, A1, A2, hr, hi⟩ := id h
  obtain ⟨r1, r2⟩ := hr s hs
  have hcr := h.cr hs
  have h5 : g_InR v5 := by
    rw [e5]
    exact Bd_in_R _ _
  refine m_X0_addTo (a0 := o) ⟨by omega, by omega⟩ h2 h3 h4 h5 fun _ => ⟨k1, cn, q4, 5, A2, ⟨by omega, by omega⟩, ?_⟩
  rw [hA.1]
  refine ⟨⟨by omega, by omega⟩, ss, q3, 5, A1, ⟨by omega, by omega⟩, r s, r1, ⟨by omega, by omega⟩, 2800, r2, ⟨by decide, by decide⟩, fun g => absurd g (by omega), fun _ => ⟨⟨by omega, by omega⟩, fun M20 x20 _ => ⟨⟨by omega, by omega⟩, ⟨by omega, by omega⟩, fun M26 x26 _ => ⟨⟨by omega, by omega⟩, ⟨by omega, by omega⟩, fun M32 x32 _ => ⟨⟨by omega, by omega⟩, ⟨by omega, by omega⟩, fun M38 x38 _ => ?_⟩⟩⟩⟩⟩
  have f38 : e_fr (Bd_F cn r (fun j => j = s)) M M38 := by
    rw [x38, x32, x26, x20]
    have hp : ∀ k, Bd_F cn r (fun j => j = s) (r s) k := fun k => Or.inr ⟨s, hs, rfl, rfl⟩
    exact (((e_fr.wi _ (hp _)).tr (e_fr.wi _ (hp _))).tr (e_fr.wi _ (hp _))).tr (e_fr.wi _ (hp _))
  have hc38 : ∀ k, g_i M38 cn k = g_i M cn k := fun k => by rw [x38, g_i_wo hcr, x32, g_i_wo hcr, x26, g_i_wo hcr, x20, g_i_wo hcr]
  refine ⟨cn, by rw [f38.2.2]; exact q4, 5, f38.A A2, ⟨by omega, by omega⟩, ?_⟩
  rw [hc38, hA.1]
  refine ⟨⟨by omega, by omega⟩, ⟨by omega, by omega⟩, fun M49 x49 _ => ?_⟩
  have f49 : e_fr (Bd_F cn r (fun j => j = s)) M M49 := f38.tr (by
    rw [x49]
    exact e_fr.wi _ (Or.inl ⟨rfl, s, rfl, rfl⟩))
  have v : ∀ k, g_i M49 (r s) k = if k = (A.length : Int) * 4 + 3 then v5 else if k = (A.length : Int) * 4 + 2 then v4 else if k = (A.length : Int) * 4 + 1 then v3 else if k = (A.length : Int) * 4 then v2 else g_i M (r s) k := fun k => by
    rw [x49, g_i_wo (Ne.symm hcr), x38, g_i_ws, x32, g_i_ws, x26, g_i_ws, x20, g_i_ws]
  refine hq M49 f49 ⟨?_, fun i y hy => ?_⟩
  · rw [x49, g_i_ws, if_pos rfl, List.length_append, List.length_singleton]
    omega
  · by_cases g : i < A.length
    · rw [List.getElem?_append_left g] at hy
      rw [v, v, v, v, if_neg (by omega), if_neg (by omega), if_neg (by omega), if_neg (by omega), if_neg (by omega), if_neg (by omega), if_neg (by omega), if_neg (by omega), if_neg (by omega), if_neg (by omega), if_neg (by omega), if_neg (by omega), if_neg (by omega), if_neg (by omega), if_neg (by omega), if_neg (by omega)]
      exact hA.2 i y hy
    · rw [List.getElem?_append_right (by omega)] at hy
      have hi0 := (List.getElem?_eq_some_iff.mp hy).1
      rw [List.length_singleton] at hi0
      have hi1 : i = A.length := by omega
      rw [hi1, Nat.sub_self] at hy
      have hy : x = y := Option.some.inj hy
      subst hy
      rw [hi1, v, v, v, v]
      refine ⟨?_, ?_, ?_, ?_⟩
      · rw [if_neg (by omega), if_neg (by omega), if_neg (by omega), if_pos rfl]
        exact e2
      · rw [if_neg (by omega), if_neg (by omega), if_pos rfl]
        exact e3
      · rw [if_neg (by omega), if_pos rfl]
        exact e4
      · rw [if_pos rfl]
        exact e5
theorem L_opt_R {o : Option (Int × b_E)} (h : ∀ y, o = some y → g_InR y.1) : g_InR (L_opt o) := by
  cases o with
  | none => exact ⟨by decide, by decide⟩
  | some y => exact h y rfl
theorem c_addPoint {Q : g_M → Prop} {s : Nat} {y : Int × b_E} (h : Bd_o o rm b ss cn r M) (hb : g_A M b 0 n) (hn : n ≤ 1000000000) (hs : s < 5) (hA : Bd_S cn r s A M) (hl : A.length < 700) (hy : b_st (g_i M b) n y.1 20 y.2.1 y.2.2.1 y.2.2.2) (hq : ∀ M1, e_fr (Bd_F cn r (fun j => j = s)) M M1 → Bd_S cn r s (A ++ [D_pt y]) M1 → Q M1) : g_Call (d + 3) 12 [.ref o, g_n (s : Int), g_n y.1] M (g_qV Q) := by
  have hyR := hy.R hn
  have hc := b_cl_R y.2.1
  refine m_X0_addPoint (d := d + 2) ⟨by omega, by omega⟩ hyR fun _ => ⟨h.1, b, h.2.1.2.1, c_cl2 (d := d + 1) hb hn hy ?_⟩
  intro _ _ _
  refine c_addTo (d := d + 1) (x := D_pt y) h hs hA hl rfl rfl rfl rfl ⟨by omega, by omega⟩ hyR hyR fun M1 f1 S1 => ?_
  intro _ _
  exact hq M1 f1 S1
/-- a set comes in place of another -/
theorem c_copySet {Q : g_M → Prop} {s t : Nat} (h : Bd_o o rm b ss cn r M) (hs : s < 5) (ht : t < 5) (hst : s ≠ t) (hA : Bd_S cn r s A M) (hl : A.length ≤ 700) (hq : ∀ M1, e_fr (Bd_F cn r (fun j => j = t)) M M1 → Bd_S cn r t A M1 → Q M1) : g_Call (d + 1) 14 [.ref o, g_n (s : Int), g_n (t : Int)] M (g_qV Q) := by
  obtain ⟨k1, ⟨q1, q2, q3, q4⟩, A1, A2, hr, hi⟩ := id h
  obtain ⟨r1, r2⟩ := hr s hs
  obtain ⟨t1, t2⟩ := hr t ht
  have hne : r s ≠ r t := fun z => hst (hi s t hs ht z)
  refine m_X0_copy (a0 := o) ⟨by omega, by omega⟩ ⟨by omega, by omega⟩ fun _ => ⟨k1, ss, q3, 5, A1, ⟨by omega, by omega⟩, r s, r1, ss, q3, 5, A1, ⟨by omega, by omega⟩, r t, t1, cn, q4, 5, A2, ⟨by omega, by omega⟩, ?_⟩
  rw [hA.1]
  refine ⟨⟨by omega, by omega⟩, 2800, r2, 2800, t2, ⟨by decide, by decide, by omega, by omega, by omega⟩, fun M27 x27 _ => ?_⟩
  have f27 : e_fr (Bd_F cn r (fun j => j = t)) M M27 := by
    rw [x27]
    refine ⟨rfl, fun y k hy => ?_, fun _ _ => rfl⟩
    rw [g_i_cp, if_neg]
    exact fun z => hy (Or.inr ⟨t, ht, rfl, z.1⟩)
  have hc27 : ∀ k, g_i M27 cn k = g_i M cn k := fun k => by
    rw [x27, g_i_cp, if_neg]
    exact fun z => h.cr ht z.1
  have h27 : ∀ k, 0 ≤ k → k < (A.length : Int) * 4 → g_i M27 (r t) k = g_i M (r s) k := fun k h0 h1 => by
    rw [x27, g_i_cp, if_pos ⟨rfl, h0, by omega⟩, show (0 : Int) + (k - 0) = k by omega]
  refine ⟨cn, by rw [f27.2.2]; exact q4, cn, by rw [f27.2.2]; exact q4, 5, f27.A A2, ⟨by omega, by omega⟩, 5, f27.A A2, ⟨by omega, by omega⟩, fun M41 x41 _ => ?_⟩
  have f41 : e_fr (Bd_F cn r (fun j => j = t)) M M41 := f27.tr (by
    rw [x41]
    exact e_fr.wi _ (Or.inl ⟨rfl, t, rfl, rfl⟩))
  refine hq M41 f41 ⟨?_, fun i x hx => ?_⟩
  · rw [x41, g_i_ws, if_pos rfl, hc27]
    exact hA.1
  · have hil := (List.getElem?_eq_some_iff.mp hx).1
    have h41 : ∀ k, g_i M41 (r t) k = g_i M27 (r t) k := fun k => by rw [x41, g_i_wo (Ne.symm (h.cr ht))]
    rw [h41, h41, h41, h41, h27 _ (by omega) (by omega), h27 _ (by omega) (by omega), h27 _ (by omega) (by omega), h27 _ (by omega) (by omega)]
    exact hA.2 i x hx
end BDA
