/-! WHAT THE CLASS TELLS: its state; it is fed -/
/-- how many of the first indexes of a shelf are there -/
def X_cnt (st : Nat → I_T) (w : Nat) : Nat → Nat
  | 0 => 0
  | n + 1 => X_cnt st w n + if (st (4 * w + n)).isNone = true then 0 else 1
theorem X_cnt_le (st : Nat → I_T) (w : Nat) : ∀ n, X_cnt st w n ≤ n
  | 0 => Nat.le_refl 0
  | n + 1 => by
    have h := X_cnt_le st w n
    show X_cnt st w n + (if (st (4 * w + n)).isNone = true then 0 else 1) ≤ n + 1
    split <;> omega
def X_st (st : Nat → I_T) (D : Nat → List (Int × List b_E)) (an tp k : Int) : Int := if k = 0 then (D 0).length else if k = 1 then (D 1).length else if k = 2 then S_sum ((D 0).map Prod.snd) else if k = 3 then S_sum ((D 1).map Prod.snd) else if k = 4 then X_cnt st 0 4 else if k = 5 then X_cnt st 1 4 else if k = 6 then an else if k = 7 then tp else -1
/-- the bytes of a number that is fed -/
def X_fb (v : Int) (j : Nat) : Int := if j = 0 then g_w8 (g_w8 (g_shr v 24)) else if j = 1 then g_w8 (g_w8 (g_shr v 16)) else if j = 2 then g_w8 (g_w8 (g_shr v 8)) else g_w8 (g_w8 v)
/-- the tape after a number was fed -/
def X_fd (F : Int → Int) (tp v : Int) : Int → Int := fun q => if q < tp then F q else X_fb v (q - tp).toNat
section CST
variable {d : Nat} {ι : Nat → Nat} {κ : Nat → Nat → Nat} {al sz : Nat → Nat × Nat} {cB eB : Int} {st : Nat → I_T} {D : Nat → List (Int × List b_E)} {gv : Nat → Int} {M M0 M1 : g_M} {x w : Nat} {an : List Int} {i k v tp : Int} {F : Int → Int}
theorem c_indexCnt {Q : Int → g_M → Prop} (H : C_H ι κ al sz cB eB st D gv M) (hw : w < 2) (hq : Q (X_cnt st w 4 : Nat) M) : g_Call (d + 1) 132 [.ref (ι (67 + w))] M (g_qI Q) := by
  obtain ⟨g0, gs, gh, gr10, gr1, gr0⟩ := H.gF hw
  obtain ⟨r', rk', rr', rA', ri'⟩ := H.xs hw
  have hlp : ∀ (j i : Nat), i + j = 4 → g_Run d 132 4 [(0, .ref (ι (67 + w))), (1, g_n (X_cnt st w i : Nat)), (2, g_n (i : Int))] [] M (g_qI Q) := by
    intro j
    induction j with
    | zero =>
      intro i hi
      have hi4 : i = 4 := by omega
      subst hi4
      have hc := X_cnt_le st w 4
      exact s_X8_indexCount_4 (a0 := ι (67 + w)) ⟨by omega, by omega⟩ ⟨by omega, by omega⟩ fun _ => ⟨fun g => absurd g (by decide), fun _ => hq⟩
    | succ j ih =>
      intro i hi
      have hc := X_cnt_le st w i
      obtain ⟨n1, n2⟩ := H.n9 (x := 4 * w + i) (by omega)
      have h9 := ih (i + 1) (by omega)
      have e1 : X_cnt st w (i + 1) = X_cnt st w i + if (st (4 * w + i)).isNone = true then 0 else 1 := rfl
      rw [show ((i + 1 : Nat) : Int) = (i : Int) + 1 by omega] at h9
      refine s_X8_indexCount_4 (a0 := ι (67 + w)) ⟨by omega, by omega⟩ ⟨by omega, by omega⟩ fun _ => ⟨fun _ => ⟨gs, ι r', rr', 4, rA', ⟨by omega, by omega⟩, κ (4 * w + i) 0, ri' i (by omega), n1, fun g => ⟨⟨by omega, by omega⟩, ⟨by omega, by omega⟩, ?_⟩, fun g => ⟨⟨by omega, by omega⟩, ⟨by omega, by omega⟩, ?_⟩⟩, fun g => absurd (by omega) g⟩
      · rw [n2.mp g] at e1
        have e1 : X_cnt st w (i + 1) = X_cnt st w i + 0 := e1
        rw [e1] at h9
        rw [Int.add_zero]
        exact h9
      · cases hs : st (4 * w + i) with
        | none => exact absurd (n2.mpr hs) g
        | some t =>
          rw [hs] at e1
          have e1 : X_cnt st w (i + 1) = X_cnt st w i + 1 := e1
          rw [e1, show ((X_cnt st w i + 1 : Nat) : Int) = (X_cnt st w i : Int) + 1 by omega] at h9
          exact h9
  exact m_X8_indexCount (d := d) fun _ => hlp 4 0 rfl
theorem c_state {Q : Int → g_M → Prop} (hk : g_InR k) (H : C_H ι κ al sz cB eB st D gv M) (hA : C_an ι an M) (hT : g_i M (ι 0) 12 = tp) (hq : Q (X_st st D an.length tp k) M) : g_Call (d + 2) 200 [.ref (ι 0), g_n k] M (g_qI Q) := by
  unfold X_st at hq
  obtain ⟨s1, s2, s3, s4⟩ := H.s2 (w := 0) (by decide)
  obtain ⟨t1, -, -, t4⟩ := H.s2 (w := 1) (by decide)
  have h0 := (H.2.2.2.2.1 0 (by decide)).2.2.1
  have h1 := (H.2.2.2.2.1 1 (by decide)).2.2.1
  have s1 : g_r M (ι 66) 0 = some (ι 67) := s1
  have t1 : g_r M (ι 66) 1 = some (ι 68) := t1
  have c0 : g_i M (ι 67) 6 = (D 0).length := h0.1
  have c1 : g_i M (ι 68) 6 = (D 1).length := h1.1
  have d0 : g_i M (ι 67) 7 = S_sum ((D 0).map Prod.snd) := h0.2.1
  have d1 : g_i M (ι 68) 7 = S_sum ((D 1).map Prod.snd) := h1.2.1
  refine m_X11_state (d := d + 1) hk fun _ => ⟨fun z => ⟨H.1.O (by decide), ι 66, s3, 2, s2, ⟨by omega, by omega⟩, ι 67, by rw [z]; exact s1, H.1.O (by decide), ?_⟩, fun z0 => ⟨fun z => ⟨H.1.O (by decide), ι 66, s3, 2, s2, ⟨by omega, by omega⟩, ι 68, by rw [z]; exact t1, H.1.O (by decide), ?_⟩, fun z1 => ⟨fun z => ⟨H.1.O (by decide), ι 66, s3, ⟨by omega, by omega⟩, 2, s2, ⟨by omega, by omega⟩, ι 67, by rw [z]; exact s1, H.1.O (by decide), ?_⟩, fun z2 => ⟨fun z => ⟨H.1.O (by decide), ι 66, s3, ⟨by omega, by omega⟩, 2, s2, ⟨by omega, by omega⟩, ι 68, by rw [z]; exact t1, H.1.O (by decide), ?_⟩, fun z3 => ⟨fun z => ⟨H.1.O (by decide), ι 66, s3, ⟨by omega, by omega⟩, 2, s2, ⟨by omega, by omega⟩, ι 67, by rw [z]; exact s1, H.1.O (by decide), c_indexCnt (d := d) (w := 0) H (by decide) ?_⟩, fun z4 => ⟨fun z => ⟨H.1.O (by decide), ι 66, s3, ⟨by omega, by omega⟩, 2, s2, ⟨by omega, by omega⟩, ι 68, by rw [z]; exact t1, H.1.O (by decide), c_indexCnt (d := d) (w := 1) H (by decide) ?_⟩, fun z5 => ⟨fun z => ⟨H.1.O (by decide), ι 3, H.1.r (by decide), H.1.O (by decide), ?_⟩, fun z6 => ⟨fun z => ⟨H.1.O (by decide), ?_⟩, fun z7 => ?_⟩⟩⟩⟩⟩⟩⟩⟩
  · rw [if_pos z] at hq
    rw [c0]
    exact hq
  · rw [if_neg z0, if_pos z] at hq
    rw [c1]
    exact hq
  · rw [if_neg z0, if_neg z1, if_pos z] at hq
    rw [d0]
    exact hq
  · rw [if_neg z0, if_neg z1, if_neg z2, if_pos z] at hq
    rw [d1]
    exact hq
  · rw [if_neg z0, if_neg z1, if_neg z2, if_neg z3, if_pos z] at hq
    exact fun _ _ _ => hq
  · rw [if_neg z0, if_neg z1, if_neg z2, if_neg z3, if_neg z4, if_pos z] at hq
    exact fun _ _ _ => hq
  · rw [if_neg z0, if_neg z1, if_neg z2, if_neg z3, if_neg z4, if_neg z5, if_pos z] at hq
    rw [hA.1]
    exact hq
  · rw [if_neg z0, if_neg z1, if_neg z2, if_neg z3, if_neg z4, if_neg z5, if_neg z6, if_pos z] at hq
    rw [hT]
    exact hq
  · rw [if_neg z0, if_neg z1, if_neg z2, if_neg z3, if_neg z4, if_neg z5, if_neg z6, if_neg z7] at hq
    exact hq
/-- what stands of the tape -/
def C_tp (ι : Nat → Nat) (F : Int → Int) (tp : Int) (M : g_M) : Prop := g_i M (ι 0) 12 = tp ∧ 0 ≤ tp ∧ tp ≤ 2000 ∧ ∀ q, 0 ≤ q → q < tp → g_i M (ι 2) (4 + q) = F q
theorem c_put1 {Q : g_M → Prop} (hv : g_InR v) (H : C_H ι κ al sz cB eB st D gv M) (hT : C_tp ι F tp M) (h4 : tp + 4 ≤ 2000) (hq : ∀ M1, C_H ι κ al sz cB eB st D gv M1 → C_tp ι (X_fd F tp v) (tp + 4) M1 → g_i M1 (ι 3) = g_i M (ι 3) ∧ g_i M1 (ι 4) = g_i M (ι 4) → Q M1) : g_Call (d + 1) 194 [.ref (ι 0), g_n v] M (g_qV Q) := by
  obtain ⟨t1, t2, t3, t5⟩ := hT
  have hj := H.2.1
  have r0 : g_r M (ι 0) 0 = some (ι 2) := H.1.r (by decide)
  have A2 : g_A M (ι 2) 0 246408 := H.1.A (by decide)
  have n02 : ι 0 ≠ ι 2 := hj.ne (by decide) (by decide) (by decide)
  refine m_X11_putOnTape hv fun _ => ⟨H.1.O (by decide), by rw [t1]; exact ⟨by omega, by omega⟩, ι 2, r0, 246408, A2, by rw [t1]; exact ⟨by omega, by omega⟩, ?_⟩
  rw [t1]
  intro M8 e8 _
  refine ⟨ι 2, by rw [e8]; exact r0, ⟨by omega, by omega⟩, 246408, by rw [e8]; exact A2, ⟨by omega, by omega⟩, fun M18 e18 _ => ⟨ι 2, by rw [e18, e8]; exact r0, ⟨by omega, by omega⟩, 246408, by rw [e18, e8]; exact A2, ⟨by omega, by omega⟩, fun M28 e28 _ => ⟨ι 2, by rw [e28, e18, e8]; exact r0, ⟨by omega, by omega⟩, 246408, by rw [e28, e18, e8]; exact A2, ⟨by omega, by omega⟩, fun M38 e38 _ => ?_⟩⟩⟩
  have f38 : e_fr (fun y k => (y = ι 2 ∧ 4 + tp ≤ k ∧ k < 8 + tp)) M M38 := by
    rw [e38, e28, e18, e8]
    exact (((e_fr.wi _ ⟨rfl, by omega, by omega⟩).tr (e_fr.wi _ ⟨rfl, by omega, by omega⟩)).tr (e_fr.wi _ ⟨rfl, by omega, by omega⟩)).tr (e_fr.wi _ ⟨rfl, by omega, by omega⟩)
  have i12 : g_i M38 (ι 0) 12 = tp := by rw [f38.2.1 _ _ fun z => n02 z.1, t1]
  rw [i12]
  refine ⟨⟨by omega, by omega⟩, fun M43 e43 _ => ?_⟩
  have f43 : e_fr (fun y k => (y = ι 2 ∧ 4 + tp ≤ k ∧ k < 8 + tp) ∨ y = ι 0) M M43 := (f38.up fun y k z => Or.inl z).tr (by
    rw [e43]
    exact e_fr.wi _ (Or.inr rfl))
  have b43 : ∀ j, g_i M43 (ι 2) j = g_i M38 (ι 2) j := fun j => by
    rw [e43, g_i_wi, if_neg fun z => n02 z.1.symm]
  refine hq M43 (H.es (T := [0, 2]) f43 (by decide) fun y k z => ?_) ⟨by rw [e43, g_i_ws, if_pos rfl], by omega, h4, fun q q0 q1 => ?_⟩ ⟨funext fun k => f43.2.1 _ _ fun z => ?_, funext fun k => f43.2.1 _ _ fun z => ?_⟩
  · rcases z with ⟨z, z1, z2⟩ | z
    · exact ⟨2, by decide, z, fun _ => by omega⟩
    · exact ⟨0, by decide, z, fun g => absurd g (by decide)⟩
  · rw [b43]
    unfold X_fd
    by_cases g : q < tp
    · rw [if_pos g, f38.2.1 _ _ fun z => by omega]
      exact t5 q q0 g
    · rw [if_neg g, e38, g_i_ws, e28, g_i_ws, e18, g_i_ws, e8, g_i_ws]
      unfold X_fb
      have hj : q = tp ∨ q = tp + 1 ∨ q = tp + 2 ∨ q = tp + 3 := by omega
      rcases hj with e | e | e | e
      · rw [if_neg (by omega), if_neg (by omega), if_neg (by omega), if_pos (by omega), if_pos (by omega)]
      · rw [if_neg (by omega), if_neg (by omega), if_pos (by omega), if_neg (by omega), if_pos (by omega)]
      · rw [if_neg (by omega), if_pos (by omega), if_neg (by omega), if_neg (by omega), if_pos (by omega)]
      · rw [if_pos (by omega), if_neg (by omega), if_neg (by omega), if_neg (by omega)]
  · rcases z with ⟨z, -⟩ | z
    · exact hj.ne (by decide) (by decide) (by decide) z
    · exact hj.ne (by decide) (by decide) (by decide) z
  · rcases z with ⟨z, -⟩ | z
    · exact hj.ne (by decide) (by decide) (by decide) z
    · exact hj.ne (by decide) (by decide) (by decide) z
theorem c_feed {Q : Int → g_M → Prop} {v1 v2 v3 v4 v5 : Int} (h1 : g_InR v1) (h2 : g_InR v2) (h3 : g_InR v3) (h4 : g_InR v4) (h5 : g_InR v5) (H : C_H ι κ al sz cB eB st D gv M) (hT : C_tp ι F tp M) (hA : C_an ι an M) (hn : 2000 < tp + 20 → Q (-1) M) (hy : tp + 20 ≤ 2000 → ∀ M1, C_H ι κ al sz cB eB st D gv M1 → C_tp ι (X_fd (X_fd (X_fd (X_fd (X_fd F tp v1) (tp + 4) v2) (tp + 8) v3) (tp + 12) v4) (tp + 16) v5) (tp + 20) M1 → C_an ι an M1 → Q (tp + 20) M1) : g_Call (d + 2) 193 [.ref (ι 0), g_n v1, g_n v2, g_n v3, g_n v4, g_n v5] M (g_qI Q) := by
  have ht := hT
  obtain ⟨t1, t2, t3, -⟩ := ht
  refine m_X11_feed (d := d + 1) h1 h2 h3 h4 h5 fun _ => ⟨H.1.O (by decide), by rw [t1]; exact ⟨by omega, by omega⟩, fun z => hn (by rw [t1] at z; exact z), fun z => ?_⟩
  rw [t1] at z
  refine c_put1 (d := d) h1 H hT (by omega) fun M3 H3 T3 k3 => ?_
  intro _ _
  refine c_put1 (d := d) h2 H3 T3 (by omega) fun M6 H6 T6 k6 => ?_
  intro _ _
  rw [show tp + 4 + 4 = tp + 8 by omega] at T6
  refine c_put1 (d := d) h3 H6 T6 (by omega) fun M9 H9 T9 k9 => ?_
  intro _ _
  rw [show tp + 8 + 4 = tp + 12 by omega] at T9
  refine c_put1 (d := d) h4 H9 T9 (by omega) fun M12 H12 T12 k12 => ?_
  intro _ _
  rw [show tp + 12 + 4 = tp + 16 by omega] at T12
  refine c_put1 (d := d) h5 H12 T12 (by omega) fun M15 H15 T15 k15 => ?_
  intro _ _
  rw [show tp + 16 + 4 = tp + 20 by omega] at T15
  rw [T15.1]
  refine hy (by omega) M15 H15 T15 ?_
  have e3 : g_i M15 (ι 3) = g_i M (ι 3) := k15.1.trans (k12.1.trans (k9.1.trans (k6.1.trans k3.1)))
  have e4 : g_i M15 (ι 4) = g_i M (ι 4) := k15.2.trans (k12.2.trans (k9.2.trans (k6.2.trans k3.2)))
  unfold C_an
  rw [e3, e4]
  exact hA
end CST
