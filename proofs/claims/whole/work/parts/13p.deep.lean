/-! CHANGES: how deep a document is; how long paths make it -/
noncomputable def b_dp : Nat → Int → List b_E → Int
  | 0, lv, _ => lv
  | D + 1, lv, es => es.foldl (fun m e => if e.1 = 3 ∨ e.1 = 4 then max m (b_dp D (lv + 1) (b_ch e.2.2)) else m) lv
theorem b_dp_fold {g : b_E → Int} {hi : Int} (hg : ∀ e, g e ≤ hi) : ∀ (es : List b_E) (m : Int), m ≤ hi → m ≤ es.foldl (fun m e => if e.1 = 3 ∨ e.1 = 4 then max m (g e) else m) m ∧ es.foldl (fun m e => if e.1 = 3 ∨ e.1 = 4 then max m (g e) else m) m ≤ hi := by
  intro es
  induction es with
  | nil => exact fun m h => ⟨Int.le_refl _, h⟩
  | cons e es ih =>
    intro m h
    rw [List.foldl_cons]
    split
    · have h1 := hg e
      have h2 := ih (max m (g e)) (by omega)
      exact ⟨by omega, h2.2⟩
    · exact ih m h
theorem b_dp_R : ∀ (D : Nat) (lv : Int) (es : List b_E), lv ≤ b_dp D lv es ∧ b_dp D lv es ≤ lv + D := by
  intro D
  induction D with
  | zero => exact fun lv es => ⟨Int.le_refl _, by show lv ≤ lv + ((0 : Nat) : Int); omega⟩
  | succ D ih =>
    intro lv es
    exact b_dp_fold (g := fun e => b_dp D (lv + 1) (b_ch e.2.2)) (hi := lv + ((D + 1 : Nat) : Int)) (fun e => by have := (ih (lv + 1) (b_ch e.2.2)).2; show b_dp D (lv + 1) (b_ch e.2.2) ≤ _; omega) es lv (by omega)
section DEEP
variable {a : Nat} {M : g_M} {n : Int}
theorem c_deepest (hA : g_A M a 0 n) (hn : n ≤ 1000000000) : ∀ (D : Nat) {e : b_E} {q lv : Int} {dd : Nat} {Q : Int → g_M → Prop}, 2 * D + 4 ≤ dd → b_st (g_i M a) n q D e.1 e.2.1 e.2.2 → e.1 = 3 ∨ e.1 = 4 → e.2.2.length ≤ 199000 → 0 ≤ lv → lv + D ≤ 60 → Q (b_dp D lv (b_ch e.2.2)) M → g_Call dd 124 [.ref a, g_n q, g_n lv] M (g_qI Q) := by
  have hnl := hA.len
  intro D
  induction D with
  | zero =>
    intro e q lv dd Q hdd hs hk
    exact absurd hk (b_gv0 hs.2.2.1)
  | succ D ih =>
    intro e q lv dd Q hdd hs hk hl hl0 hl1 h
    obtain ⟨d, rfl⟩ : ∃ d, dd = d + 2 := ⟨dd - 2, by omega⟩
    obtain ⟨D1, eD, hsts, hlen⟩ := hs.kids hk
    have eD : D1 = D := by omega
    subst eD
    have hsR := hs.R hn
    have hmany := b_ser_many (b_ch e.2.2)
    have hloop : ∀ (es : List b_E) (q2 m : Int) (i : Nat), b_sts (g_i M a) n q2 D1 es → i + es.length < 100000 → lv ≤ m → m ≤ lv + ((D1 + 1 : Nat) : Int) → (b_ser es).length ≤ 199000 → Q (es.foldl (fun m e => if e.1 = 3 ∨ e.1 = 4 then max m (b_dp D1 (lv + 1) (b_ch e.2.2)) else m) m) M → g_Run (d + 1) 124 20 [(0, .ref a), (1, g_n q), (2, g_n lv), (3, g_n m), (4, g_n q2), (5, g_n i)] [] M (g_qI Q) := by
      intro es
      induction es with
      | nil =>
        intro q2 m i h1 h2 h3 h4 h5 h6
        have hq2R : g_InR q2 := by
          have := h1.2.2.1
          have := h1.2.2.2.1
          exact ⟨by omega, by omega⟩
        exact s_X7_deepest_20 hsR ⟨by omega, by omega⟩ ⟨by omega, by omega⟩ hq2R ⟨by omega, by omega⟩ fun _ => ⟨fun _ => c_kdE hA hn h1 fun _ _ _ => ⟨fun _ => h6, fun g => absurd rfl g⟩, fun g => absurd (by rw [List.length_nil] at h2; omega) g⟩
      | cons f es ihe =>
        intro q2 m i h1 h2 h3 h4 h5 h6
        obtain ⟨hf, hr⟩ := h1.cons
        rw [List.length_cons] at h2
        have hsl := b_ser_len f es
        have hfl := b_el_len f.1 f.2.1 f.2.2
        have hfR := hf.R hn
        have hfk := b_vs_pos (b_gv_vs hf.2.2.1)
        have hf5 := hf.2.2.2.2
        have hf4 := hf.2.2.2.1
        rw [List.foldl_cons] at h6
        have hbf := hf.val.2.2.2
        have h52 : (f.1 = 3 ∨ f.1 = 4) → g_Run (d + 1) 124 52 [(0, .ref a), (1, g_n q), (2, g_n lv), (3, g_n m), (4, g_n q2), (5, g_n i)] [] M (g_qI Q) := by
          intro hfk2
          rw [if_pos hfk2] at h6
          have hR := b_dp_R D1 (lv + 1) (b_ch f.2.2)
          refine s_X7_deepest_52 hsR ⟨by omega, by omega⟩ ⟨by omega, by omega⟩ hfR ⟨by omega, by omega⟩ fun _ => ⟨⟨by omega, by omega⟩, ?_⟩
          refine ih (dd := d + 1) (by omega) hf hfk2 (by omega) (by omega) (by omega) ?_
          intro _ _ _
          exact c_nx2 hA hn hf fun _ _ _ => ⟨⟨by omega, by omega⟩, ihe _ _ (i + 1) hr (by omega) (by omega) (by omega) (by omega) h6⟩
        refine s_X7_deepest_20 hsR ⟨by omega, by omega⟩ ⟨by omega, by omega⟩ hfR ⟨by omega, by omega⟩ fun _ => ⟨fun _ => c_kd2 hA hn hf fun _ _ _ => ⟨fun g => absurd g (by omega), fun _ => ⟨n, hA, ⟨by omega, by omega⟩, fun g => h52 (Or.inl (by omega)), fun g => ⟨⟨by omega, by omega⟩, fun g2 => h52 (Or.inr (by omega)), fun g2 => ?_⟩⟩⟩, fun g => absurd (by omega) g⟩
        have hfn : ¬ (f.1 = 3 ∨ f.1 = 4) := by omega
        rw [if_neg hfn] at h6
        exact c_nx2 hA hn hf fun _ _ _ => ⟨⟨by omega, by omega⟩, ihe _ _ (i + 1) hr (by omega) h3 h4 (by omega) h6⟩
    refine m_X7_deepest hsR ⟨by omega, by omega⟩ fun _ => ⟨fun g => absurd g (by omega), fun _ => c_fi2 hA hn hs fun _ _ _ => ?_⟩
    exact hloop (b_ch e.2.2) _ lv 0 hsts (by omega) (Int.le_refl _) (by omega) (by omega) h
end DEEP
theorem p_sp_sum : ∀ (l : Nat) (x : List Int), x.length ≤ l → (∀ s ∈ p_sp x, s ≠ []) → ((p_sp x).map fun s => s.length + 7).sum ≤ 4 * x.length + 4 := by
  have hpos : ∀ s : List Int, s ≠ [] → 1 ≤ s.length := fun s hs => by
    rcases s with _ | ⟨a, s⟩
    · exact absurd rfl hs
    · rw [List.length_cons]; omega
  intro l
  induction l with
  | zero =>
    intro x hx h
    have hx0 : x = [] := List.eq_nil_of_length_eq_zero (by omega)
    subst hx0
    exact absurd rfl (h [] (List.mem_singleton.mpr rfl))
  | succ l ih =>
    intro x hx h
    rcases p_hd_tl x with ⟨h2, h3⟩ | ⟨y, h2, h3⟩
    · rw [p_sp_none h2, h3] at h ⊢
      have := hpos x (h x (List.mem_singleton.mpr rfl))
      simp
      omega
    · rw [p_sp_some h2] at h ⊢
      have hl := congrArg List.length h3
      rw [List.length_append, List.length_cons] at hl
      have h4 := ih y (by omega) fun s hs => h s (List.mem_cons_of_mem _ hs)
      have h5 := hpos _ (h (p_hd x) List.mem_cons_self)
      rw [List.map_cons, List.sum_cons]
      omega
theorem X_G_le {p : b_E} (h : p_ok p.2.1) : X_G p (p_sp p.2.1) ≤ 4 * (b_el p.1 p.2.1 p.2.2).length := by
  have h1 := p_sp_sum p.2.1.length p.2.1 (Nat.le_refl _) h.1
  have h2 := b_el_len p.1 p.2.1 p.2.2
  unfold X_G
  omega
/-- a change without faults -/
theorem Y_ps_good {op : Int} : ∀ (ys : List b_E) (pre : List (List Int)) (q : Int), (Y_ps op pre (L_at q ys)).1 = 0 → ∀ y ∈ ys, p_ok y.2.1 ∧ (op = 3 → y.1 = 16 ∨ y.1 = 18) := by
  intro ys
  induction ys with
  | nil => exact fun _ _ _ y hy => absurd hy (by simp)
  | cons y ys ih =>
    intro pre q h w hw
    have hps : Y_ps op pre (L_at q (y :: ys)) = if Y_ok y.2.1 = true then (if op = 3 ∧ ¬ (y.1 = 16 ∨ y.1 = 18) then (4, q) else if (pre.any fun x => X_bg x y.2.1) = true then (5, q) else Y_ps op (pre ++ [y.2.1]) (L_at (q + (b_el y.1 y.2.1 y.2.2).length) ys)) else (3, q) := rfl
    rw [hps] at h
    split at h
    · rename_i hok
      split at h
      · exact absurd h (show ¬ (4 : Int) = 0 by decide)
      · rename_i hn
        split at h
        · exact absurd h (show ¬ (5 : Int) = 0 by decide)
        · rcases List.mem_cons.mp hw with rfl | hw
          · exact ⟨Y_ok_iff.mp hok, fun h3 => Classical.byContradiction fun z => hn ⟨h3, z⟩⟩
          · exact ih _ _ h w hw
    · exact absurd h (show ¬ (3 : Int) = 0 by decide)
theorem Y_os_good : ∀ (cs : List b_E) (pre : List (List Int)) (q : Int), (Y_os pre (L_at q cs)).1 = 0 → ∀ z ∈ cs, X_op z.2.1 ≠ 0 ∧ z.1 = 3 ∧ ∀ y ∈ b_ch z.2.2, p_ok y.2.1 ∧ (X_op z.2.1 = 3 → y.1 = 16 ∨ y.1 = 18) := by
  intro cs
  induction cs with
  | nil => exact fun _ _ _ y hy => absurd hy (by simp)
  | cons z cs ih =>
    intro pre q h w hw
    have hos : Y_os pre (L_at q (z :: cs)) = if X_op z.2.1 = 0 then (1, q) else if z.1 = 3 then (if (Y_ps (X_op z.2.1) pre (L_ch q z)).1 = 0 then Y_os (pre ++ Y_nm (b_ch z.2.2)) (L_at (q + (b_el z.1 z.2.1 z.2.2).length) cs) else Y_ps (X_op z.2.1) pre (L_ch q z)) else (2, q) := rfl
    rw [hos] at h
    split at h
    · exact absurd h (show ¬ (1 : Int) = 0 by decide)
    · rename_i hop
      split at h
      · rename_i hk
        split at h
        · rename_i hp
          rcases List.mem_cons.mp hw with rfl | hw
          · exact ⟨hop, hk, Y_ps_good _ _ _ hp⟩
          · exact ih _ _ h w hw
        · rename_i hp
          exact absurd h hp
      · exact absurd h (show ¬ (2 : Int) = 0 by decide)
