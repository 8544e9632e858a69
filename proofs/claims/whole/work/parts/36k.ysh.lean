/-! PURE: where a request stands does not matter, changes -/
def Y_S (s : Int) (R R2 : Int × Int) : Prop := R2.1 = R.1 ∧ (R.1 ≠ 0 → R2.2 = R.2 + s)
theorem Y_S.w (s w q : Int) : Y_S s (w, q) (w, q + s) := ⟨rfl, fun _ => rfl⟩
theorem Y_S.z (s : Int) : Y_S s (0, 0) (0, 0) := ⟨rfl, fun h => absurd rfl h⟩
theorem Y_ps_c (op : Int) (pre : List (List Int)) (z : Int × b_E) (r : List (Int × b_E)) : Y_ps op pre (z :: r) = if Y_ok z.2.2.1 = true then (if op = 3 ∧ ¬ (z.2.1 = 16 ∨ z.2.1 = 18) then (4, z.1) else if (pre.any fun x => X_bg x z.2.2.1) = true then (5, z.1) else Y_ps op (pre ++ [z.2.2.1]) r) else (3, z.1) := rfl
theorem Y_os_c (pre : List (List Int)) (z : Int × b_E) (r : List (Int × b_E)) : Y_os pre (z :: r) = if X_op z.2.2.1 = 0 then (1, z.1) else if z.2.1 = 3 then (if (Y_ps (X_op z.2.2.1) pre (L_ch z.1 z.2)).1 = 0 then Y_os (pre ++ Y_nm (b_ch z.2.2.2)) r else Y_ps (X_op z.2.2.1) pre (L_ch z.1 z.2)) else (2, z.1) := rfl
theorem Y_ps_S {op : Int} (s : Int) : ∀ (l : List (Int × b_E)) (pre : List (List Int)), Y_S s (Y_ps op pre l) (Y_ps op pre (l.map (L_sh s))) := by
  intro l
  induction l with
  | nil => exact fun pre => Y_S.z s
  | cons z r ih =>
    intro pre
    have e : (z :: r).map (L_sh s) = (z.1 + s, z.2) :: r.map (L_sh s) := rfl
    rw [e, Y_ps_c, Y_ps_c]
    by_cases g1 : Y_ok z.2.2.1 = true
    · rw [if_pos g1, if_pos g1]
      by_cases g2 : op = 3 ∧ ¬ (z.2.1 = 16 ∨ z.2.1 = 18)
      · rw [if_pos g2, if_pos g2]
        exact Y_S.w s 4 z.1
      · rw [if_neg g2, if_neg g2]
        by_cases g3 : (pre.any fun x => X_bg x z.2.2.1) = true
        · rw [if_pos g3, if_pos g3]
          exact Y_S.w s 5 z.1
        · rw [if_neg g3, if_neg g3]
          exact ih _
    · rw [if_neg g1, if_neg g1]
      exact Y_S.w s 3 z.1
theorem Y_os_S (s : Int) : ∀ (l : List (Int × b_E)) (pre : List (List Int)), Y_S s (Y_os pre l) (Y_os pre (l.map (L_sh s))) := by
  intro l
  induction l with
  | nil => exact fun pre => Y_S.z s
  | cons z r ih =>
    intro pre
    have e : (z :: r).map (L_sh s) = (z.1 + s, z.2) :: r.map (L_sh s) := rfl
    have hL : L_ch (z.1 + s) z.2 = (L_ch z.1 z.2).map (L_sh s) := L_ch_sh s z.1 z.2
    have hp := Y_ps_S (op := X_op z.2.2.1) s (L_ch z.1 z.2) pre
    rw [← hL] at hp
    rw [e, Y_os_c, Y_os_c]
    by_cases g1 : X_op z.2.2.1 = 0
    · rw [if_pos g1, if_pos g1]
      exact Y_S.w s 1 z.1
    · rw [if_neg g1, if_neg g1]
      by_cases g2 : z.2.1 = 3
      · rw [if_pos g2, if_pos g2]
        by_cases g3 : (Y_ps (X_op z.2.2.1) pre (L_ch z.1 z.2)).1 = 0
        · rw [if_pos g3, if_pos (hp.1.trans g3)]
          exact ih _
        · rw [if_neg g3, if_neg (fun k => g3 (hp.1.symm.trans k))]
          exact hp
      · rw [if_neg g2, if_neg g2]
        exact Y_S.w s 2 z.1
def Z_S (s : Int) (R R2 : (Int × Int) × (List b_E × Int)) : Prop := Y_S s R.1 R2.1 ∧ R2.2 = R.2
theorem Z_ps_S {op : Int} (s : Int) : ∀ (l : List (Int × b_E)) (t : List b_E × Int), Z_S s (Z_ps op t l) (Z_ps op t (l.map (L_sh s))) := by
  intro l
  induction l with
  | nil => exact fun t => ⟨Y_S.z s, rfl⟩
  | cons z r ih =>
    intro t
    have e : (z :: r).map (L_sh s) = (z.1 + s, z.2) :: r.map (L_sh s) := rfl
    rw [e, Z_ps_c, Z_ps_c]
    by_cases g : (X_path op z.2 t.1).1 = 0
    · rw [if_pos g, if_pos g]
      exact ih _
    · rw [if_neg g, if_neg g]
      exact ⟨Y_S.w s _ z.1, rfl⟩
theorem Z_os_S (s : Int) : ∀ (l : List (Int × b_E)) (t : List b_E × Int), Z_S s (Z_os t l) (Z_os t (l.map (L_sh s))) := by
  intro l
  induction l with
  | nil => exact fun t => ⟨Y_S.z s, rfl⟩
  | cons z r ih =>
    intro t
    have e : (z :: r).map (L_sh s) = (z.1 + s, z.2) :: r.map (L_sh s) := rfl
    have hL : L_ch (z.1 + s) z.2 = (L_ch z.1 z.2).map (L_sh s) := L_ch_sh s z.1 z.2
    have hp := Z_ps_S (op := X_op z.2.2.1) s (L_ch z.1 z.2) t
    rw [← hL] at hp
    rw [e, Z_os_c, Z_os_c]
    by_cases g : (Z_ps (X_op z.2.2.1) t (L_ch z.1 z.2)).1.1 = 0
    · rw [if_pos g, if_pos (hp.1.1.trans g)]
      show Z_S s _ (Z_os (Z_ps (X_op z.2.2.1) t (L_ch (z.1 + s) z.2)).2 _)
      rw [hp.2]
      exact ih _
    · rw [if_neg g, if_neg (fun k => g (hp.1.1.symm.trans k))]
      exact hp
theorem U_R_S {pc qc : Int} {cs es : List b_E} (s : Int) : Z_S s (U_R pc qc cs es) (U_R (pc + s) (qc + s) cs es) := by
  have h := Z_os_S s (L_at qc cs) (es, 0)
  rw [← L_at_sh] at h
  unfold U_R Z_end
  by_cases g : (Z_os (es, 0) (L_at qc cs)).1.1 = 0
  · rw [if_pos g, if_pos (h.1.1.trans g), h.2]
    by_cases g2 : 2000 < (b_doc (Z_os (es, 0) (L_at qc cs)).2.1).length
    · rw [if_pos g2, if_pos g2]
      exact ⟨Y_S.w s 9 pc, rfl⟩
    · rw [if_neg g2, if_neg g2]
      by_cases g3 : 16 < b_dp 31 1 (Z_os (es, 0) (L_at qc cs)).2.1
      · rw [if_pos g3, if_pos g3]
        exact ⟨Y_S.w s 9 pc, rfl⟩
      · rw [if_neg g3, if_neg g3]
        exact h
  · rw [if_neg g, if_neg (fun k => g (h.1.1.symm.trans k))]
    exact h
/-- what comes of a document does not depend on places -/
theorem U_R_2 (pc pc2 qc : Int) (cs es : List b_E) (s : Int) : (U_R pc2 (qc + s) cs es).2 = (U_R pc qc cs es).2 ∧ (U_R pc2 (qc + s) cs es).1.1 = (U_R pc qc cs es).1.1 := by
  have h := U_R_S (pc := pc) (qc := qc) (cs := cs) (es := es) s
  have h2 := U_R_pc (pc + s) pc2 (qc + s) cs es
  exact ⟨h2.2.symm.trans h.2, h2.1.symm.trans h.1.1⟩
theorem U_nd_S (hd : List b_E → Bool) (qc : Int) (cs : List b_E) (s : Int) : U_nd hd (qc + s) cs = U_nd hd qc cs ∧ U_al hd (qc + s) cs = U_al hd qc cs := by
  refine ⟨funext fun es => ?_, funext fun es => ?_⟩
  · unfold U_nd
    rw [(U_R_2 (-1) (-1) qc cs es s).1]
  · unfold U_al
    rw [(U_R_2 (-1) (-1) qc cs es s).1]
theorem V_S (hd : List b_E → Bool) (qc : Int) (cs : List b_E) (s : Int) : V_ds hd (qc + s) cs = V_ds hd qc cs ∧ V_z1 hd (qc + s) cs = V_z1 hd qc cs ∧ V_z2 hd (qc + s) cs = V_z2 hd qc cs ∧ V_Fit hd (qc + s) cs = V_Fit hd qc cs := by
  obtain ⟨h1, h2⟩ := U_nd_S hd qc cs s
  have h3 : V_ds hd (qc + s) cs = V_ds hd qc cs := by
    funext ds
    unfold V_ds
    rw [h1]
  refine ⟨h3, ?_, ?_, ?_⟩
  · funext ds
    unfold V_z1
    rw [h2]
  · funext ds
    unfold V_z2
    rw [h1, h2]
  · funext st w ds
    unfold V_Fit
    rw [h3]
