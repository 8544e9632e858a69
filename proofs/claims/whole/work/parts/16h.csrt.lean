/-! STAGES: $sort: what it makes; the class puts them in order -/
noncomputable def O_key (w : Int) (es : List b_E) (st : List (List Int)) : Option b_E := match O_ks (O_lv es st) with
  | [] => none
  | v :: K => K.foldl (fun v y => if w * v_oc y v < 0 then y else v) v
theorem O_ks_ne (l : List (Option b_E)) : O_ks l ≠ [] := by
  unfold O_ks
  split
  · simp
  · rename_i h
    intro z
    exact h (List.append_eq_nil_iff.mp z).1
theorem O_key_bst {w : Int} (hw : w = 1 ∨ w = -1) (es : List b_E) (st : List (List Int)) : O_bst w (O_ks (O_lv es st)) (O_key w es st) := by
  unfold O_key
  rcases hK : O_ks (O_lv es st) with _ | ⟨v, K⟩
  · exact absurd hK (O_ks_ne _)
  · have : ∀ (K K1 : List (Option b_E)) (v : Option b_E), O_bst w K1 v → O_bst w (K1 ++ K) (K.foldl (fun v y => if w * v_oc y v < 0 then y else v) v) := by
      intro K
      induction K with
      | nil =>
        intro K1 v h
        rw [List.append_nil]
        exact h
      | cons y K ih =>
        intro K1 v h
        have := ih (K1 ++ [y]) _ (h.add (y := y) hw)
        rw [List.append_assoc] at this
        exact this
    exact this K [v] v (O_bst.one w v)
noncomputable def O_kcmp (es es2 : List b_E) : List b_E → Int
  | [] => 0
  | x :: r => if O_w x * v_oc (O_key (O_w x) es (p_sp x.2.1)) (O_key (O_w x) es2 (p_sp x.2.1)) = 0 then O_kcmp es es2 r else O_w x * v_oc (O_key (O_w x) es (p_sp x.2.1)) (O_key (O_w x) es2 (p_sp x.2.1))
theorem O_kcmp_sym {cs : List b_E} (es es2 : List b_E) : O_kcmp es2 es cs = - O_kcmp es es2 cs := by
  induction cs with
  | nil => rfl
  | cons x r ih =>
    have h1 := v_oc_T.s (O_key (O_w x) es (p_sp x.2.1)) (O_key (O_w x) es2 (p_sp x.2.1))
    unfold O_kcmp
    rw [h1, Int.mul_neg]
    by_cases h : O_w x * v_oc (O_key (O_w x) es (p_sp x.2.1)) (O_key (O_w x) es2 (p_sp x.2.1)) = 0
    · rw [if_pos (by omega), if_pos h, ih]
    · rw [if_neg (by omega), if_neg h]
def O_ins (c : Nat → Nat → Int) (x : Nat) : List Nat → List Nat
  | [] => [x]
  | y :: r => if 0 < c y x then y :: O_ins c x r else x :: y :: r
def O_rv (c : Nat → Nat → Int) : Nat → List Nat
  | 0 => []
  | n + 1 => O_ins c n (O_rv c n)
theorem O_ins_len (c : Nat → Nat → Int) (x : Nat) : ∀ l : List Nat, (O_ins c x l).length = l.length + 1 := by
  intro l
  induction l with
  | nil => rfl
  | cons y r ih =>
    unfold O_ins
    split
    · rw [List.length_cons, ih, List.length_cons]
    · rfl
theorem O_ins_mem (c : Nat → Nat → Int) (x : Nat) : ∀ l : List Nat, ∀ y ∈ O_ins c x l, y = x ∨ y ∈ l := by
  intro l
  induction l with
  | nil =>
    intro y hy
    exact Or.inl (List.mem_singleton.mp hy)
  | cons z r ih =>
    intro y hy
    unfold O_ins at hy
    split at hy
    · rcases List.mem_cons.mp hy with hy | hy
      · exact Or.inr (hy ▸ List.mem_cons_self)
      · rcases ih y hy with h | h
        · exact Or.inl h
        · exact Or.inr (List.mem_cons_of_mem _ h)
    · rcases List.mem_cons.mp hy with hy | hy
      · exact Or.inl hy
      · exact Or.inr hy
theorem O_rv_len (c : Nat → Nat → Int) : ∀ n : Nat, (O_rv c n).length = n := by
  intro n
  induction n with
  | zero => rfl
  | succ n ih => exact (O_ins_len c n _).trans (by rw [ih])
theorem O_rv_lt (c : Nat → Nat → Int) : ∀ n : Nat, ∀ y ∈ O_rv c n, y < n := by
  intro n
  induction n with
  | zero => exact fun y hy => absurd hy (by unfold O_rv; simp)
  | succ n ih =>
    intro y hy
    rcases O_ins_mem c n _ y hy with h | h
    · omega
    · have := ih y h
      omega
noncomputable def O_ci (cs : List b_E) (ds : List (List b_E)) (i k : Nat) : Int := O_kcmp (ds.getD i []) (ds.getD k []) cs
noncomputable def O_ord (cs : List b_E) (ds : List (List b_E)) : List Nat := (O_rv (O_ci cs ds) ds.length).reverse
noncomputable def O_srt (cs : List b_E) (ds : List (List b_E)) : List (List b_E) := (O_ord cs ds).map fun i => ds.getD i []
def O_il (l : List Nat) : List Int := l.map fun i : Nat => (i : Int)
/-- the class's keys of the documents: a row for each way -/
def O_row (b row : Nat) (x : b_E) (ds : List (List b_E)) (n : Nat) (M : g_M) : Prop := g_A M row 1 200 ∧ ∀ (i : Nat) (es : List b_E), i < n → ds[i]? = some es → ∃ y, g_i M row i = L_opt y ∧ O_at (g_i M b) 246408 y ∧ (∀ z, y = some z → z.2.2.2.length ≤ 199000) ∧ v_oc (L_nop y) (O_key (O_w x) es (p_sp x.2.1)) = 0
def O_tab (so b kk wa : Nat) (cs : List b_E) (ds : List (List b_E)) (M : g_M) : Prop := S_B so b M ∧ g_r M so 11 = some kk ∧ g_A M kk 5 4 ∧ g_r M so 12 = some wa ∧ g_A M wa 1 4 ∧ cs.length ≤ 4 ∧ ∀ (s : Nat) (x : b_E), cs[s]? = some x → g_i M wa s = O_w x ∧ (O_w x = 1 ∨ O_w x = -1) ∧ ∃ row, g_r M kk s = some row ∧ O_row b row x ds ds.length M
section CSRT
variable {so b kk wa : Nat} {M : g_M} {cs : List b_E} {ds : List (List b_E)}
theorem c_cmpSorted {d i k : Nat} {Q : Int → g_M → Prop} (hT : O_tab so b kk wa cs ds M) (hds : ds.length ≤ 200) (hi : i < ds.length) (hk : k < ds.length) (hq : Q (O_ci cs ds i k) M) : g_Call (d + 46) 165 [.ref so, g_n i, g_n k, g_n cs.length] M (g_qI Q) := by
  obtain ⟨⟨s1, s2, s3⟩, h11, hkk, h12, hwa, hc4, hrow⟩ := hT
  obtain ⟨es, hes⟩ : ∃ es, ds[i]? = some es := ⟨_, List.getElem?_eq_getElem hi⟩
  obtain ⟨es2, hes2⟩ : ∃ es, ds[k]? = some es := ⟨_, List.getElem?_eq_getElem hk⟩
  have hq' : Q (O_kcmp es es2 cs) M := by
    unfold O_ci at hq
    rw [List.getD_eq_getElem?_getD, List.getD_eq_getElem?_getD, hes, hes2] at hq
    exact hq
  have hlp : ∀ (r l : List b_E) (v4 : Int), cs = l ++ r → g_InR v4 → (v4 = 0 → O_kcmp es es2 r = O_kcmp es es2 cs) → (v4 ≠ 0 → v4 = O_kcmp es es2 cs) → g_Run (d + 45) 165 6 [(0, .ref so), (1, g_n i), (2, g_n k), (3, g_n cs.length), (4, g_n v4), (5, g_n l.length)] [] M (g_qI Q) := by
    intro r
    induction r with
    | nil =>
      intro l v4 h1 hv h0 hn
      rw [List.append_nil] at h1
      have hv4 : v4 = O_kcmp es es2 cs := by
        by_cases g : v4 = 0
        · rw [← h0 g, g]
          rfl
        · exact hn g
      have hql : Q v4 M := hv4 ▸ hq'
      have hll := congrArg List.length h1
      exact s_X9_compareSorted_6 ⟨by omega, by omega⟩ ⟨by omega, by omega⟩ ⟨by omega, by omega⟩ hv ⟨by omega, by omega⟩ fun _ => ⟨fun g => absurd g (by omega), fun _ => hql⟩
    | cons x r ih =>
      intro l v4 h1 hv h0 hn
      have hl := congrArg List.length h1
      rw [List.length_append, List.length_cons] at hl
      refine s_X9_compareSorted_6 ⟨by omega, by omega⟩ ⟨by omega, by omega⟩ ⟨by omega, by omega⟩ hv ⟨by omega, by omega⟩ fun _ => ⟨fun _ => ⟨fun g => ?_, fun g => hn g ▸ hq'⟩, fun g => absurd (by omega) g⟩
      obtain ⟨w1, w2, row, w3, w4, w5⟩ := hrow l.length x (by rw [h1, List.getElem?_append_right (Nat.le_refl _), Nat.sub_self]; rfl)
      obtain ⟨y, y1, y2, y3, y4⟩ := w5 i es hi hes
      obtain ⟨z, z1, z2, z3, z4⟩ := w5 k es2 hk hes2
      refine ⟨s1, b, s2, kk, h11, _, hkk, ⟨by omega, by omega⟩, row, w3, _, w4, ⟨by omega, by omega⟩, b, s2, kk, h11, _, hkk, ⟨by omega, by omega⟩, row, w3, _, w4, ⟨by omega, by omega⟩, ?_⟩
      rw [y1, z1]
      refine c_cmpO (d := d + 1) s3 (by decide) y2 z2 y3 ?_
      intro _ _ _
      have hcg := v_oc_T.cg y4 z4
      rw [hcg]
      refine ⟨wa, h12, _, hwa, ⟨by omega, by omega⟩, ?_⟩
      rw [w1]
      have hr := v_oc_T.r (O_key (O_w x) es (p_sp x.2.1)) (O_key (O_w x) es2 (p_sp x.2.1))
      have hcm : v_oc (O_key (O_w x) es (p_sp x.2.1)) (O_key (O_w x) es2 (p_sp x.2.1)) * O_w x = O_w x * v_oc (O_key (O_w x) es (p_sp x.2.1)) (O_key (O_w x) es2 (p_sp x.2.1)) := Int.mul_comm _ _
      rw [hcm]
      have hR : g_InR (O_w x * v_oc (O_key (O_w x) es (p_sp x.2.1)) (O_key (O_w x) es2 (p_sp x.2.1))) := by
        rcases hr with g | g | g <;> rcases w2 with k | k <;> rw [g, k] <;> exact ⟨by decide, by decide⟩
      refine ⟨hR, ⟨by omega, by omega⟩, ?_⟩
      have h9 := ih (l ++ [x]) (O_w x * v_oc (O_key (O_w x) es (p_sp x.2.1)) (O_key (O_w x) es2 (p_sp x.2.1))) (by rw [h1]; simp) hR (fun g2 => ?_) fun g2 => ?_
      · rwa [List.length_append, List.length_singleton, show ((l.length + 1 : Nat) : Int) = (l.length : Int) + 1 by omega] at h9
      · rw [← h0 g]
        exact (if_pos g2).symm
      · rw [← h0 g]
        exact (if_neg g2).symm
  exact m_X9_compareSorted ⟨by omega, by omega⟩ ⟨by omega, by omega⟩ ⟨by omega, by omega⟩ fun _ => hlp cs [] 0 rfl ⟨by decide, by decide⟩ (fun _ => rfl) fun g => absurd rfl g
end CSRT
