/-! CHANGES: the reference copies, and finds how deep a document is -/
theorem b_dp_sh : ∀ (D : Nat) (lv s : Int) (es : List b_E), b_dp D (lv + s) es = b_dp D lv es + s := by
  intro D
  induction D with
  | zero => exact fun _ _ _ => rfl
  | succ D ih =>
    intro lv s es
    have hf : ∀ (fs : List b_E) (m : Int), fs.foldl (fun m e => if e.1 = 3 ∨ e.1 = 4 then max m (b_dp D (lv + s + 1) (b_ch e.2.2)) else m) (m + s) = fs.foldl (fun m e => if e.1 = 3 ∨ e.1 = 4 then max m (b_dp D (lv + 1) (b_ch e.2.2)) else m) m + s := by
      intro fs
      induction fs with
      | nil => exact fun _ => rfl
      | cons f fs ihf =>
        intro m
        rw [List.foldl_cons, List.foldl_cons]
        by_cases hk : f.1 = 3 ∨ f.1 = 4
        · rw [if_pos hk, if_pos hk, show lv + s + 1 = lv + 1 + s by omega, ih (lv + 1) s, ← ihf]
          congr 1
          · rw [show lv + 1 + s = lv + s + 1 by omega]
          · omega
        · rw [if_neg hk, if_neg hk, ihf]
    exact hf es lv
section RDEEP
variable {d m b : Nat} {M : g_M}
theorem e_depth (hR : e_R M m b) : ∀ (D : Nat) {c : Int} {es : List b_E} {dd : Nat} {Q : Int → g_M → Prop}, 2 * D + 6 ≤ dd → e_tl (g_i M b) c (c + 4) D es es → D ≤ 60 → Q (b_dp (D + 1) 1 es) M → g_Call dd 244 [.ref m, g_n c] M (g_qI Q) := by
  intro D
  induction D with
  | zero =>
    intro c es dd Q hdd hs hD h
    obtain ⟨d, rfl⟩ : ∃ d, dd = d + 6 := ⟨dd - 6, by omega⟩
    have hst := hs.st
    have hlp : ∀ (fs : List b_E) (q v : Int), e_tl (g_i M b) c q 0 es fs → 0 ≤ v → v ≤ 60 → Q (fs.foldl (fun m e => if e.1 = 3 ∨ e.1 = 4 then max m (b_dp 0 (1 + 1) (b_ch e.2.2)) else m) (v + 1)) M → g_Run (d + 5) 244 7 [(0, .ref m), (1, g_n c), (2, g_n v), (3, g_n q)] [] M (g_qI Q) := by
      intro fs
      induction fs with
      | nil =>
        intro q v h1 h2 h3 h4
        have hq := h1.st
        refine s_X12_depth_7 ⟨by omega, by omega⟩ ⟨by omega, by omega⟩ ⟨by omega, by omega⟩ fun _ => ⟨hR.1, e_lastE (d := d + 2) hR h1 ?_⟩
        intro _ _ _
        exact ⟨fun g => absurd g (by omega), fun _ => ⟨⟨by omega, by omega⟩, h4⟩⟩
      | cons f fs ih =>
        intro q v h1 h2 h3 h4
        have hq := h1.st
        obtain ⟨hf, hr⟩ := h1.cons
        have hkf : ¬ (f.1 = 3 ∨ f.1 = 4) := fun z => b_gv0 hf.2.2.1 z
        rw [List.foldl_cons, if_neg hkf] at h4
        refine s_X12_depth_7 ⟨by omega, by omega⟩ ⟨by omega, by omega⟩ ⟨by omega, by omega⟩ fun _ => ⟨hR.1, e_lastC (d := d + 2) hR h1 fun r hr1 hr2 => fun _ _ _ => ⟨fun _ => e_kd hR hf (P := fun w => (w = 3 → _) ∧ (¬ w = 3 → _)) ⟨fun g => absurd (Or.inl g) hkf, fun _ => e_kd hR hf (P := fun w => (w = 4 → _) ∧ (¬ w = 4 → _)) ⟨fun g => absurd (Or.inr g) hkf, fun _ => e_bh2 (d := d + 1) hR hf fun _ _ _ => ?_⟩⟩, fun g => absurd hr1 g⟩⟩
        exact ih _ v hr h2 h3 h4
    refine m_X12_depth ⟨by omega, by omega⟩ fun _ => e_first (d := d + 4) (by omega) (by omega) ?_
    intro _ _ _
    exact hlp es _ 0 hs (by decide) (by decide) h
  | succ D ih =>
    intro c es dd Q hdd hs hD h
    obtain ⟨d, rfl⟩ : ∃ d, dd = d + 7 := ⟨dd - 7, by omega⟩
    have hst := hs.st
    have hlp : ∀ (fs : List b_E) (q v : Int), e_tl (g_i M b) c q (D + 1) es fs → 0 ≤ v → v ≤ 62 → Q (fs.foldl (fun m e => if e.1 = 3 ∨ e.1 = 4 then max m (b_dp (D + 1) (1 + 1) (b_ch e.2.2)) else m) (v + 1)) M → g_Run (d + 6) 244 7 [(0, .ref m), (1, g_n c), (2, g_n v), (3, g_n q)] [] M (g_qI Q) := by
      intro fs
      induction fs with
      | nil =>
        intro q v h1 h2 h3 h4
        have hq := h1.st
        refine s_X12_depth_7 ⟨by omega, by omega⟩ ⟨by omega, by omega⟩ ⟨by omega, by omega⟩ fun _ => ⟨hR.1, e_lastE (d := d + 3) hR h1 ?_⟩
        intro _ _ _
        exact ⟨fun g => absurd g (by omega), fun _ => ⟨⟨by omega, by omega⟩, h4⟩⟩
      | cons f fs ihf =>
        intro q v h1 h2 h3 h4
        have hq := h1.st
        obtain ⟨hf, hr⟩ := h1.cons
        rw [List.foldl_cons] at h4
        have h39 : f.1 = 3 ∨ f.1 = 4 → g_Run (d + 6) 244 39 [(0, .ref m), (1, g_n c), (2, g_n v), (3, g_n q)] [] M (g_qI Q) := by
          intro hk
          obtain ⟨D1, ys, eD, e2, e3, e4, e5, -⟩ := hf.tl hk
          have eD : D1 = D := by omega
          subst eD
          have hbR := b_dp_R (D1 + 1) 1 ys
          have hsh := b_dp_sh (D1 + 1) 1 1 ys
          rw [if_pos hk, e5, hsh] at h4
          refine s_X12_depth_39 ⟨by omega, by omega⟩ ⟨by omega, by omega⟩ ⟨by omega, by omega⟩ fun _ => ⟨hR.1, e_vl2 (d := d + 4) hR hf fun _ _ _ => ?_⟩
          rw [show q + 6 + (f.2.1.length : Int) = q + 2 + f.2.1.length + 4 by omega] at e4
          refine ih (dd := d + 6) (by omega) e4 (by omega) ?_
          intro _ _ _
          refine ⟨fun g => e_bh2 (d := d + 2) hR hf fun _ _ _ => ?_, fun g => e_bh2 (d := d + 2) hR hf fun _ _ _ => ?_⟩
          · refine ihf _ _ hr (by omega) (by omega) ?_
            rwa [show max (v + 1) (b_dp (D1 + 1) 1 ys + 1) = b_dp (D1 + 1) 1 ys + 1 by omega] at h4
          · refine ihf _ _ hr (by omega) (by omega) ?_
            rwa [show max (v + 1) (b_dp (D1 + 1) 1 ys + 1) = v + 1 by omega] at h4
        refine s_X12_depth_7 ⟨by omega, by omega⟩ ⟨by omega, by omega⟩ ⟨by omega, by omega⟩ fun _ => ⟨hR.1, e_lastC (d := d + 3) hR h1 fun r hr1 hr2 => fun _ _ _ => ⟨fun _ => e_kd hR hf (P := fun w => (w = 3 → _) ∧ (¬ w = 3 → _)) ⟨fun g => h39 (Or.inl g), fun g3 => e_kd hR hf (P := fun w => (w = 4 → _) ∧ (¬ w = 4 → _)) ⟨fun g => h39 (Or.inr g), fun g4 => e_bh2 (d := d + 2) hR hf fun _ _ _ => ?_⟩⟩, fun g => absurd hr1 g⟩⟩
        rw [if_neg fun z => z.elim g3 g4] at h4
        exact ihf _ v hr h2 h3 h4
    refine m_X12_depth ⟨by omega, by omega⟩ fun _ => e_first (d := d + 5) (by omega) (by omega) ?_
    intro _ _ _
    exact hlp es _ 0 hs (by decide) (by decide) h
theorem e_copy {Qv : g_M → Prop} {p t : Int} {x : List Int} (hR : e_R M m b) (hx : b_at (g_i M b) p x) (hp0 : 0 ≤ p) (hp : p + x.length ≤ 2706210) (ht0 : 0 ≤ t) (ht : t + x.length ≤ 2706210) (hdis : p + x.length ≤ t ∨ t + x.length ≤ p) (hq : ∀ M1, e_fr (fun y k => y = b ∧ t ≤ k ∧ k < t + x.length) M M1 → b_at (g_i M1 b) t x → Qv M1) : g_Call (d + 1) 319 [.ref m, g_n p, g_n t, g_n x.length] M (g_qV Qv) := by
  have hlp : ∀ (z u : List Int) (M1 : g_M), x = u ++ z → e_fr (fun y k => y = b ∧ t ≤ k ∧ k < t + x.length) M M1 → b_at (g_i M1 b) t u → g_Run d 319 3 [(0, .ref m), (1, g_n p), (2, g_n t), (3, g_n x.length), (4, g_n u.length)] [] M1 (g_qV Qv) := by
    intro z
    induction z with
    | nil =>
      intro u M1 hxu f1 hu
      rw [List.append_nil] at hxu
      subst hxu
      exact s_X12_copy_3 ⟨by omega, by omega⟩ ⟨by omega, by omega⟩ ⟨by omega, by omega⟩ ⟨by omega, by omega⟩ fun _ => ⟨fun g => absurd g (by omega), fun _ => hq M1 f1 hu⟩
    | cons a z ih =>
      intro u M1 hxu f1 hu
      have hxl := congrArg List.length hxu
      rw [List.length_append, List.length_cons] at hxl
      have hR1 := f1.R hR
      have ha : g_i M1 b (p + u.length) = a := by
        rw [f1.2.1 b _ fun w => by omega]
        have hx' := hx
        rw [hxu] at hx'
        exact (b_cons.mp (b_app.mp hx').2).1
      refine s_X12_copy_3 ⟨by omega, by omega⟩ ⟨by omega, by omega⟩ ⟨by omega, by omega⟩ ⟨by omega, by omega⟩ fun hok => ⟨fun _ => ⟨hR1.1, b, hR1.2.1, ⟨by omega, by omega⟩, b, hR1.2.1, ⟨by omega, by omega⟩, _, hR1.2.2, ⟨by omega, by omega⟩, _, hR1.2.2, ⟨by omega, by omega⟩, ?_⟩, fun g => absurd (by omega) g⟩
      rintro M14 rfl _
      refine ⟨⟨by omega, by omega⟩, ?_⟩
      have hby := hok.byte hR1.2.2 (p + u.length)
      rw [g_w8_of hby.1 hby.2, ha]
      have h9 := ih (u ++ [a]) (g_wi M1 b (t + u.length) a) (by rw [hxu]; simp) (f1.tr (e_fr.wi _ ⟨rfl, by omega, by omega⟩)) ?_
      · rwa [List.length_append, List.length_singleton, show ((u.length + 1 : Nat) : Int) = u.length + 1 by omega] at h9
      · refine b_app.mpr ⟨b_at_keep hu fun k k1 k2 => by rw [g_i_wi, if_neg fun w => by omega], b_cons.mpr ⟨by rw [g_i_wi, if_pos ⟨rfl, rfl⟩], b_nil _ _⟩⟩
  refine m_X12_copy ⟨by omega, by omega⟩ ⟨by omega, by omega⟩ ⟨by omega, by omega⟩ fun _ => ?_
  exact hlp x [] M rfl (e_fr.rf _ _) (b_nil _ _)
end RDEEP
