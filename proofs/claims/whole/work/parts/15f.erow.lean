/-! STAGES: the reference writes rows of values -/
section EROW
variable {m b : Nat} {F : Int → Int} {M M1 : g_M} {lo : Int} {x : List Int}
/-- writing at a loose place -/
def E_V (F : Int → Int) (m b : Nat) (lo : Int) (x : List Int) (M : g_M) : Prop := e_Wr m b lo 2706200 x M ∧ 2606200 ≤ lo ∧ ∀ k, k < 922000 → g_i M b k = F k
def E_VL (m b : Nat) (lo : Int) (y : Nat) (k : Int) : Prop := e_WL m b lo 2706200 y k ∨ E_RS m y k
theorem E_V.to {y : List Int} (h : E_V F m b lo x M) (f : e_fr (E_VL m b lo) M M1) (hw : e_Wr m b lo 2706200 y M1) : E_V F m b lo y M1 := by
  have hmb : m ≠ b := g_neOA h.1.1.1 h.1.1.2.2
  refine ⟨hw, h.2.1, fun k hk => ?_⟩
  rw [f.2.1 b k fun z => ?_]
  · exact h.2.2 k hk
  · have := h.2.1
    rcases z with (⟨z, -⟩ | ⟨-, z, -⟩) | ⟨z, -⟩
    · exact hmb z.symm
    · omega
    · exact hmb z.symm
theorem E_V.rs (h : E_V F m b lo x M) (f : e_fr (E_RS m) M M1) : E_V F m b lo x M1 := by
  have hmb : m ≠ b := g_neOA h.1.1.1 h.1.1.2.2
  refine h.to (f.up fun y k z => Or.inr z) ?_
  obtain ⟨h1, h2, h3, h4⟩ := h.1
  have hm : ∀ k, (k = 4 ∨ k = 5 ∨ k = 6) → g_i M1 m k = g_i M m k := fun k hk => f.2.1 m k fun z => by
    obtain ⟨-, z⟩ := z
    omega
  have hb : g_i M1 b = g_i M b := funext fun k => f.2.1 b k fun z => hmb z.1.symm
  refine ⟨f.R h1, h2, h3, ?_⟩
  unfold w_W at h4 ⊢
  rw [hm 4 (by decide), hm 5 (by decide), hm 6 (by decide), hb]
  exact h4
theorem E_V.wl {y : List Int} (h : E_V F m b lo x M) (f : e_fr (e_WL m b lo 2706200) M M1) (hw : e_Wr m b lo 2706200 y M1) : E_V F m b lo y M1 := h.to (f.up fun _ _ z => Or.inl z) hw
theorem e_putValues : ∀ (D : Nat) {n dd : Nat} {M : g_M} {Q : g_M → Prop} {z : b_E} {q c0 p0 to : Int} {y : List Int} {x : List Int}, D ≤ n → D + 9 ≤ dd → D ≤ 30 → E_V F m b lo x M → b_st F 922000 q D z.1 z.2.1 z.2.2 → z.1 = 4 → z.2.2.length ≤ 15000 → c0 = q + 2 + z.2.1.length → b_at F p0 y → 0 ≤ p0 → p0 + y.length = to → to ≤ 922000 → (∀ M1, e_fr (E_VL m b lo) M M1 → E_V F m b lo (x ++ b_doc (V_rows n (p_sp y) (b_ch z.2.2))) M1 → Q M1) → g_Call dd 326 [.ref m, g_n c0, g_n p0, g_n to] M (g_qV Q) := by
  intro D
  induction D using Nat.strongRecOn with
  | ind D IH =>
  intro n dd M Q z q c0 p0 to y x hDn hdd hD30 hW hz hk hzl hc0 hy hp0 hto hto9 hq
  subst hc0
  obtain ⟨D1, eD, hkids, hkl⟩ := hz.kids (Or.inr hk)
  obtain ⟨n1, rfl⟩ : ∃ n1, n = n1 + 1 := ⟨n - 1, by omega⟩
  obtain ⟨d, rfl⟩ : ∃ d, dd = d + 8 := ⟨dd - 8, by omega⟩
  obtain ⟨T, hT⟩ : ∃ T, T = V_rows (n1 + 1) (p_sp y) (b_ch z.2.2) := ⟨_, rfl⟩
  rw [← hT] at hq
  have hz5 := hz.2.2.2.2
  have hz4 := hz.2.2.2.1
  have hzbl := b_el_len z.1 z.2.1 z.2.2
  have hmany := b_ser_many (b_ch z.2.2)
  have hcR : g_InR (q + 2 + z.2.1.length : Int) := ⟨by omega, by omega⟩
  have hpR : g_InR p0 := ⟨by omega, by omega⟩
  have htoR : g_InR to := ⟨by omega, by omega⟩
  rw [show q + 6 + (z.2.1.length : Int) = q + 2 + z.2.1.length + 4 by omega] at hkids
  have hlp : ∀ (r : Int), g_InR r → w_r lo 2706200 r x.length → ∀ (xs : List b_E) (q6 : Int) (k : Nat) (body : List Int) (M1 : g_M), b_sts F 922000 q6 D1 xs → q6 + (b_ser xs).length = q + 2 + z.2.1.length + 4 + (b_ser (b_ch z.2.2)).length → E_V F m b lo (x ++ ([0, 0, 0, 0] ++ body)) M1 → e_fr (E_VL m b lo) M M1 → body ++ b_ser (X_num k (xs.filterMap (V_it n1 (p_sp y)))) = b_ser T → k + xs.length < 10000 → (b_ser xs).length ≤ 15000 → g_Run (d + 7) 326 15 [(0, .ref m), (1, g_n (q + 2 + z.2.1.length)), (2, g_n p0), (3, g_n to), (4, g_n r), (5, g_n k), (6, g_n q6)] [] M1 (g_qV Q) := by
    intro r hrR hr xs
    induction xs with
    | nil =>
      intro q6 k body M1 h1 h1' h2 h3 h4 h6 _
      have hR1 := h2.1.1
      have hvb : b_at (g_i M1 b) (q + 2 + z.2.1.length) (b_doc (b_ch z.2.2)) := by
        obtain ⟨D2, ys, -, e2, -, -, e5, -⟩ := (hz.upW h2.2.2).tl (Or.inr hk)
        have := (hz.upW h2.2.2).val.1
        rw [e5, ← e2]
        exact this
      have h1s : (b_ser []).length = 0 := rfl
      rw [h1s] at h1'
      have hq6R : g_InR q6 := by
        have := h1.2.2.1
        have := h1.2.2.2.1
        exact ⟨by omega, by omega⟩
      rw [List.filterMap_nil, show b_ser (X_num k []) = [] from rfl, List.append_nil] at h4
      refine s_X12_putValues_15 hcR hpR htoR hrR ⟨by omega, by omega⟩ hq6R fun _ => ⟨hR1.1, e_last (d := d + 4) hR1 hvb (by omega) (by rw [b_doc_len]; omega) ?_⟩
      intro _ _ _
      refine ⟨fun g => absurd g (by omega), fun _ => e_close (d := d + 5) h2.1 hr fun M2 f2 W2 => ?_⟩
      intro _ _
      refine hq M2 (h3.tr (f2.up fun _ _ z => Or.inl z)) (h2.wl f2 ?_)
      rw [h4] at W2
      rw [b_doc_app]
      exact W2
    | cons f xs ih =>
      intro q6 k body M1 h1 h1' h2 h3 h4 h6 h7
      have hR1 := h2.1.1
      obtain ⟨hf, hr2⟩ := h1.cons
      rw [b_ser_len] at h7 h1'
      rw [List.length_cons] at h6
      have hfbl := b_el_len f.1 f.2.1 f.2.2
      have hfR := hf.R (by decide)
      have hf5 := hf.2.2.2.2
      have hf4 := hf.2.2.2.1
      have hvb : b_at (g_i M1 b) (q + 2 + z.2.1.length) (b_doc (b_ch z.2.2)) := by
        obtain ⟨D2, ys, -, e2, -, -, e5, -⟩ := (hz.upW h2.2.2).tl (Or.inr hk)
        have := (hz.upW h2.2.2).val.1
        rw [e5, ← e2]
        exact this
      have hf1 := hf.upW h2.2.2
      have hnext : ∀ (M2 : g_M) (k2 : Nat) (body2 : List Int), E_V F m b lo (x ++ ([0, 0, 0, 0] ++ body2)) M2 → e_fr (E_VL m b lo) M M2 → body2 ++ b_ser (X_num k2 (xs.filterMap (V_it n1 (p_sp y)))) = b_ser T → k2 + xs.length < 10000 → g_Call (d + 7) 235 [.ref m, g_n q6] M2 (g_qI fun r41 M38 => g_ext M2 M38 → g_ok M38 → g_InR r41 → g_Run (d + 7) 326 15 [(0, .ref m), (1, g_n (q + 2 + z.2.1.length)), (2, g_n p0), (3, g_n to), (4, g_n r), (5, g_n k2), (6, g_n r41)] [] M38 (g_qV Q)) := by
        intro M2 k2 body2 g1 g2 g3 g4
        refine e_bh2 (d := d + 3) g1.1.1 (hf.upW g1.2.2) ?_
        intro _ _ _
        exact ih _ k2 body2 M2 hr2 (by omega) g1 g2 g3 g4 (by omega)
      have hput : ∀ (M2 : g_M) (w v7 v8 v9 : Int) (yv : b_E), E_V F m b lo (x ++ ([0, 0, 0, 0] ++ body)) M2 → e_fr (E_VL m b lo) M M2 → 0 ≤ w → w < 128 → w = yv.1 → g_InR v7 → g_InR v8 → g_InR v9 → V_it n1 (p_sp y) f = some yv → ((v7 = 1 ∧ ∃ (D2 : Nat) (nm : List Int), b_st F 922000 v8 D2 yv.1 nm yv.2.2) ∨ (v7 = 2 ∧ ∃ (e : b_E) (qe : Int) (D2 : Nat) (zr : List Int), b_st F 922000 qe D2 e.1 e.2.1 e.2.2 ∧ e.1 = 4 ∧ D2 + 2 ≤ D ∧ e.2.2.length ≤ 15000 ∧ v8 = qe + 2 + e.2.1.length ∧ b_at F v9 zr ∧ 0 ≤ v9 ∧ v9 + zr.length = to ∧ yv.2.2 = b_doc (V_rows n1 (p_sp zr) (b_ch e.2.2)))) → g_Run (d + 7) 326 97 [(0, .ref m), (1, g_n (q + 2 + z.2.1.length)), (2, g_n p0), (3, g_n to), (4, g_n r), (5, g_n k), (6, g_n q6), (7, g_n v7), (8, g_n v8), (9, g_n v9)] [g_n w, .ref m] M2 (g_qV Q) := by
        intro M2 w v7 v8 v9 yv g1 g2 hw0 hw1 hwk h7R h8R h9R hv hcs
        refine s_X12_putValues_97 hcR hpR htoR hrR ⟨by omega, by omega⟩ hfR h7R h8R h9R ⟨by omega, by omega⟩ fun _ => ⟨g1.1.1.1, e_put (d := d + 6) g1.1 ⟨by omega, by omega⟩ fun M3 f3 W3 => ?_⟩
        intro _ _
        have g3 := g1.wl f3 W3
        refine ⟨W3.1.1, e_putDigits (d := d + 5) (i := k) W3 (by omega) fun M4 f4 W4 => ?_⟩
        intro _ _
        have g4 := g3.wl f4 W4
        have fr4 := (g2.tr (f3.up fun _ _ z => Or.inl z)).tr (f4.up fun _ _ z => Or.inl z)
        have ew : ∀ v : List Int, x ++ ([0, 0, 0, 0] ++ body) ++ [g_w8 w] ++ (b_dg k ++ [0]) ++ v = x ++ ([0, 0, 0, 0] ++ (body ++ b_el yv.1 (b_dg k) v)) := by
          intro v
          rw [g_w8_of (by omega) (by omega), hwk]
          unfold b_el
          simp
        have etail : (body ++ b_el yv.1 (b_dg k) yv.2.2) ++ b_ser (X_num (k + 1) (xs.filterMap (V_it n1 (p_sp y)))) = b_ser T := by
          rw [← h4, List.filterMap_cons_some hv]
          show _ = body ++ b_ser ((yv.1, b_dg k, yv.2.2) :: X_num (k + 1) (xs.filterMap (V_it n1 (p_sp y))))
          rw [List.append_assoc]
          rfl
        have hk1 : ((k + 1 : Nat) : Int) = (k : Int) + 1 := by omega
        rcases hcs with ⟨h71, D2, nm, hb⟩ | ⟨h72, e, qe, D2, zr, hb, hb4, hDD, hbl, h8, hz9, h90, h9t, hyv⟩
        · refine ⟨fun _ => e_putValue (d := d + 3) W4 (hb.upW g4.2.2) (Or.inl ?_) fun M5 f5 W5 => ?_, fun g => absurd h71 g⟩
          · have := hb.2.2.2.2
            have := g4.2.1
            omega
          · intro _ _
            rw [ew] at W5
            have g5 := g4.wl f5 W5
            have h9 := hnext M5 (k + 1) _ g5 (fr4.tr (f5.up fun _ _ z => Or.inl z)) etail (by omega)
            rw [hk1] at h9
            exact ⟨⟨by omega, by omega⟩, h9⟩
        · refine ⟨fun g => absurd g (by omega), fun _ => IH D2 (by omega) (n := n1) (by omega) (by omega) (by omega) g4 hb hb4 hbl h8 hz9 h90 h9t hto9 fun M5 f5 g5 => ?_⟩
          intro _ _
          rw [← hyv, ew] at g5
          have h9 := hnext M5 (k + 1) _ g5 (fr4.tr f5) etail (by omega)
          rw [hk1] at h9
          exact ⟨⟨by omega, by omega⟩, h9⟩
      refine s_X12_putValues_15 hcR hpR htoR hrR ⟨by omega, by omega⟩ hfR fun _ => ⟨hR1.1, e_last (d := d + 4) hR1 hvb (by omega) (by rw [b_doc_len]; omega) ?_⟩
      intro _ _ _
      refine ⟨fun _ => e_kd hR1 hf1 (P := fun w => (w = 3 → _) ∧ (¬ w = 3 → _)) ⟨fun g3 => ?_, fun g3 => ?_⟩, fun g => absurd (by omega) g⟩
      · refine e_vl2 (d := d + 5) hR1 hf1 ?_
        intro _ _ _
        have hfl : f.2.2.length ≤ 15000 := by omega
        have hit : V_it n1 (p_sp y) f = (V_res (p_sp y) (b_ch f.2.2)).map (V_at n1) := if_pos g3
        obtain ⟨D1', eD1', hct, hcl⟩ := E_ct.of hf (Or.inl g3)
        refine e_resolve (d := d + 1) hR1 h2.2.2 hct hy hp0 hto hto9 (by omega) (fun hV M2 f2 h27 => ?_) (fun e qe D2 hV _ hD2 hb _ _ M2 f2 h27 h28 => ?_) fun e r2 qe f29 D2 zr hV hr2n hD2 hb hb4 hbl hz9 h90 h9t hre M2 f2 h27 h28 h29 => ?_
        · intro _ _
          have g2 := h2.rs f2
          have fr2 := h3.tr (f2.up fun _ _ z => Or.inr z)
          rw [hV] at hit
          rw [List.filterMap_cons_none hit] at h4
          exact ⟨fun _ => hnext M2 k body g2 fr2 h4 (by omega), fun g => absurd h27 g⟩
        · intro _ hok2
          have g2 := h2.rs f2
          have fr2 := h3.tr (f2.up fun _ _ z => Or.inr z)
          rw [hV] at hit
          have hit2 : V_it n1 (p_sp y) f = some e := hit
          have hbR := hb.R (by decide)
          have hek := b_vs_pos (b_gv_vs hb.2.2.1)
          have hb5 := hb.2.2.2.2
          have hb4' := hb.2.2.2.1
          have hbe := b_el_len e.1 e.2.1 e.2.2
          rw [h27, h28]
          refine ⟨fun g => absurd g (by decide), fun _ => ⟨fun _ => ⟨b, g2.1.1.2.1, _, g2.1.1.2.2, ⟨by omega, by omega⟩, ?_⟩, fun g => absurd rfl g⟩⟩
          rw [(hb.upW g2.2.2).val.2.2.2]
          exact hput M2 e.1 1 qe (g_i M2 m 29) e g2 fr2 (by omega) (by omega) rfl ⟨by decide, by decide⟩ hbR (hok2.1 m 29) hit2 (Or.inl ⟨rfl, D2, e.2.1, hb⟩)
        · intro _ _
          have g2 := h2.rs f2
          have fr2 := h3.tr (f2.up fun _ _ z => Or.inr z)
          rw [hV] at hit
          have hit2 : V_it n1 (p_sp y) f = some (4, [], b_doc (V_rows n1 r2 (b_ch e.2.2))) := by
            rw [hit]
            show some (V_at n1 (e, r2)) = _
            unfold V_at
            rw [if_neg (by cases r2 with | nil => exact absurd rfl hr2n | cons _ _ => simp)]
          have hb5 := hb.2.2.2.2
          have hb4' := hb.2.2.2.1
          have hbe := b_el_len e.1 e.2.1 e.2.2
          rw [h27, h28, h29]
          refine ⟨fun g => absurd g (by decide), fun _ => ⟨fun g => absurd g (by decide), fun _ => ?_⟩⟩
          refine hput M2 4 2 _ f29 _ g2 fr2 (by decide) (by decide) rfl ⟨by decide, by decide⟩ ⟨by omega, by omega⟩ ⟨by omega, by omega⟩ hit2 (Or.inr ⟨rfl, e, qe, D2, zr, hb, hb4, by omega, hbl, rfl, hz9, h90, h9t, ?_⟩)
          rw [hre]
      · have hit : V_it n1 (p_sp y) f = none := if_neg g3
        rw [List.filterMap_cons_none hit] at h4
        exact hnext M1 k body h2 h3 h4 (by omega)
  refine m_X12_putValues hcR hpR htoR fun _ => ⟨hW.1.1.1, e_open (d := d + 4) hW.1 fun r M2 f2 W2 hr => ?_⟩
  intro _ _ hrR
  have g2 := hW.wl f2 W2
  refine e_first (d := d + 6) (by omega) (by omega) ?_
  intro _ _ _
  refine hlp r hrR hr (b_ch z.2.2) _ 0 [] M2 hkids rfl ?_ (f2.up fun _ _ z => Or.inl z) ?_ (by omega) (by omega)
  · rw [List.append_nil]
    exact g2
  · rw [hT, V_rows_eq]
    rfl
end EROW
