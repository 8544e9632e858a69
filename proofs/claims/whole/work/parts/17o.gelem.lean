/-! STAGES: $group, the class: an element of a group -/
def G_WL (so ou b : Nat) (lo : Int) (y : Nat) (k : Int) : Prop := c_WL ou b lo (lo + 40400) y k ∨ (y = so ∧ k = 19)
section GELEM
variable {so r b po pf pt ou sc be fr ke gr va : Nat} {M0 M M1 : g_M} {lo : Int} {yl : Nat} {vs : List (Option b_E)}
theorem G_w_n {x : b_E} {vs : List (Option b_E)} : (G_w x vs).2.1 = x.2.1 := by
  unfold G_w
  repeat' split
  all_goals rfl
theorem c_writeGathered {d Dx Da : Nat} {Q : g_M → Prop} {qx : Int} {x a : b_E} {u : List Int} (hT : G_T so b po pf pt ou sc be fr ke gr va M) (hl : vs.length ≤ 200) (hl1 : 0 < vs.length) (hlo : 82808 ≤ lo) (hlo2 : lo ≤ 123208) (hyl : yl ≤ 82800) (hno : b_at (g_i M b) 0 [10, 0]) (hx : b_st (g_i M b) 2100 qx Dx x.1 x.2.1 x.2.2) (ha : b_st (g_i M b) 246408 (qx + 6 + x.2.1.length) Da a.1 a.2.1 a.2.2) (hax : G_a x = a) (hcd : G_cd a.2.1 ≠ 0) (hv : G_vals b va lo yl vs M) (hW : c_Wr ou b 246408 lo (lo + 40400) u M) (hq : ∀ M1, e_fr (G_WL so ou b lo) M M1 → c_Wr ou b 246408 lo (lo + 40400) (u ++ b_el (G_w x vs).1 x.2.1 (G_w x vs).2.2) M1 → (G_cd a.2.1 = 2 ∧ G_over (G_z vs) → g_i M1 so 19 = 1) → (¬ (G_cd a.2.1 = 2 ∧ G_over (G_z vs)) → g_i M1 so 19 = g_i M so 19) → Q M1) : g_Call (d + 68) 158 [.ref so, g_n qx, g_n vs.length] M (g_qV Q) := by
  have hNE : Unit → (so ≠ b ∧ so ≠ ou) ∧ b ≠ ou ∧ va ≠ b ∧ va ≠ ou := fun _ => ⟨⟨hT.1.n1.1, hT.1.n1.2.2.2.2.1⟩, hT.1.n2.2.2.2.1, (hT.n va (Or.inr (Or.inr rfl))).2.1, (hT.n va (Or.inr (Or.inr rfl))).2.2.2.2.2.1⟩
  obtain ⟨⟨⟨s1, s2, s3⟩, w2, hp, ⟨w4, w5, w6, w7⟩, -, ⟨u1, u2⟩, -⟩, ⟨-, -, t3⟩, ⟨-, -, k3⟩, -⟩ := id hT
  have hxM : b_st (g_i M b) 246408 qx Dx x.1 x.2.1 x.2.2 := ⟨hx.1, hx.2.1, hx.2.2.1, hx.2.2.2.1, by have := hx.2.2.2.2; omega⟩
  have hxR := hxM.R (by decide)
  have hx4 := hx.2.2.2.1
  have hx5 := hx.2.2.2.2
  rw [b_el_len] at hx5
  have hcR := G_cd_R a.2.1
  have hcg : g_InR (G_cd a.2.1) := ⟨by omega, by omega⟩
  obtain ⟨cd, hcdd⟩ : ∃ cd, cd = G_cd a.2.1 := ⟨_, rfl⟩
  have hnm : ∀ {M2 : g_M}, e_fr (c_WL ou b lo (lo + 40400)) M M2 → b_at (g_i M2 b) (qx + 1) x.2.1 := fun f => b_at_keep hxM.nmb fun k k1 k2 => f.2.1 b k fun z => by
    rcases z with ⟨z, -⟩ | ⟨-, z⟩
    · exact (hNE ()).2.1 z
    · omega
  have hfrO : ∀ {M2 : g_M}, e_fr (c_WL ou b lo (lo + 40400)) M M2 → G_T so b po pf pt ou sc be fr ke gr va M2 := fun f => (G_X.e (lo := lo) hT f fun y k z => by
    rcases z with ⟨z, -⟩ | ⟨z, z2⟩
    · exact Or.inr (Or.inl z)
    · exact Or.inr (Or.inr (Or.inr (Or.inr (Or.inr (Or.inr (Or.inr ⟨z, Or.inr z2⟩))))))).T hT
  have hvk : ∀ {M2 : g_M}, e_fr (c_WL ou b lo (lo + 40400)) M M2 → G_vals b va lo yl vs M2 := fun f j o ho => by
    rw [f.2.1 va j fun z => by
      rcases z with ⟨z, -⟩ | ⟨z, -⟩
      · exact (hNE ()).2.2.2 z
      · exact (hNE ()).2.2.1 z]
    exact (hv j o ho).kp (Nat.le_refl _) (fun k _ k2 => f.2.1 b k fun z => by
      rcases z with ⟨z, -⟩ | ⟨-, z⟩
      · exact (hNE ()).2.1 z
      · exact k2 z) (by omega)
  have h19k : ∀ {M2 : g_M}, e_fr (c_WL ou b lo (lo + 40400)) M M2 → g_i M2 so 19 = g_i M so 19 := fun f => f.2.1 so 19 fun z => by
    rcases z with ⟨z, -⟩ | ⟨z, -⟩
    · exact (hNE ()).1.2 z
    · exact (hNE ()).1.1 z
  have hup : ∀ {M2 : g_M}, e_fr (c_WL ou b lo (lo + 40400)) M M2 → e_fr (G_WL so ou b lo) M M2 := fun f => f.up fun _ _ z => Or.inl z
  have hqn : ∀ M1, cd ≠ 2 → e_fr (c_WL ou b lo (lo + 40400)) M M1 → c_Wr ou b 246408 lo (lo + 40400) (u ++ b_el (G_w x vs).1 x.2.1 (G_w x vs).2.2) M1 → Q M1 := fun M1 hc f W => hq M1 (hup f) W (fun z => absurd (hcdd.trans z.1) hc) fun _ => h19k f
  -- the row's or the number's head
  have h43 : (cd = 1 ∨ cd = 2) → g_Run (d + 67) 158 43 [(0, .ref so), (1, g_n qx), (2, g_n vs.length), (3, g_n cd), (4, g_n (qx + 1)), (5, g_n (qx + 1 + x.2.1.length))] [] M (g_qV Q) := by
    intro hc
    refine s_X9_writeGathered_43 hxR ⟨by omega, by omega⟩ (by rw [hcdd]; exact hcg) ⟨by omega, by omega⟩ ⟨by omega, by omega⟩ fun _ => ⟨s1, ou, w4, b, s2, u1, c_headOf (d := d + 65) hW (by decide) (by decide) s3 (by decide) (fun M3 f3 => hnm f3) (by omega) (by omega) fun M7 f7 W7 => ?_⟩
    intro _ _
    have hT7 := hfrO f7
    refine ⟨ou, hT7.1.2.2.2.1.1, fun g2 => ?_, fun g2 => ⟨hT7.1.2.2.2.2.2.1.1, c_put8 (d := d + 65) W7 fun M13 f13 W13 => ?_⟩⟩
    · have hwv : ∀ X : Int64, X = Int64.ofInt (G_z vs) → u ++ (18 :: (x.2.1 ++ [0])) ++ b_le8 X = u ++ b_el (G_w x vs).1 x.2.1 (G_w x vs).2.2 := fun X hX => by
        unfold G_w
        rw [hax, ← hcdd, if_neg (by omega), if_pos g2, hX]
        unfold b_el
        simp
      refine c_sum (d := d + 63) hT7.1.1.1 hT7.1.1.2.1 hT7.1.1.2.2 hT7.2.1.2.2 hT7.2.2.1.2.2 hl (hvk f7) (fun ho => ?_) fun ho => ?_
      · intro _ _
        have f19 : e_fr (fun y k => y = so ∧ k = 19) M7 (g_wi M7 so 19 1) := e_fr.wi _ ⟨rfl, rfl⟩
        have hb19 : g_i (g_wi M7 so 19 1) b = g_i M7 b := funext fun k => f19.2.1 b k fun z => (hNE ()).1.1 z.1.symm
        have W19 : c_Wr ou b 246408 lo (lo + 40400) (u ++ (18 :: (x.2.1 ++ [0]))) (g_wi M7 so 19 1) := W7.kp f19.1 (f19.2.2 _ _) (fun k => f19.2.1 ou k fun z => (hNE ()).1.2 z.1.symm) fun k _ _ => by rw [hb19]
        refine ⟨f19.O hT7.1.2.2.2.2.2.1.1, c_put8 (d := d + 65) W19 fun M21 f21 W21 => ?_⟩
        intro _ _
        rw [hwv _ rfl] at W21
        refine hq M21 (((hup f7).tr (f19.up fun _ _ z => Or.inr z)).tr (f21.up fun _ _ z => Or.inl z)) W21 (fun _ => ?_) fun z => absurd ⟨hcdd.symm.trans g2, ho⟩ z
        rw [f21.2.1 so 19 fun z => by
          rcases z with ⟨z, -⟩ | ⟨z, -⟩
          · exact (hNE ()).1.2 z
          · exact (hNE ()).1.1 z, g_i_wi, if_pos ⟨rfl, rfl⟩]
      · intro _ _
        refine ⟨hT7.1.2.2.2.2.2.1.1, c_put8 (d := d + 65) W7 fun M21 f21 W21 => ?_⟩
        intro _ _
        rw [hwv _ rfl] at W21
        exact hq M21 (hup (f7.tr f21)) W21 (fun z => absurd z.2 ho) fun _ => h19k (f7.tr f21)
    · intro _ _
      have hc1 : cd = 1 := by omega
      have hw1 : u ++ (18 :: (x.2.1 ++ [0])) ++ b_le8 (Int64.ofInt vs.length) = u ++ b_el (G_w x vs).1 x.2.1 (G_w x vs).2.2 := by
        unfold G_w
        rw [hax, ← hcdd, if_pos hc1]
        unfold b_el
        simp
      rw [hw1] at W13
      exact hqn M13 g2 (f7.tr f13) W13
  have h97 : (cd = 7 ∨ cd = 8) → g_Run (d + 67) 158 97 [(0, .ref so), (1, g_n qx), (2, g_n vs.length), (3, g_n cd), (4, g_n (qx + 1)), (5, g_n (qx + 1 + x.2.1.length))] [] M (g_qV Q) := by
    intro hc
    have hwv : ∀ once : Bool, (cd == 8) = once → u ++ (4 :: (x.2.1 ++ [0])) ++ b_doc (G_row 0 (G_st once [] vs)) = u ++ b_el (G_w x vs).1 x.2.1 (G_w x vs).2.2 := fun once ho => by
      unfold G_w
      rw [hax, ← hcdd, if_neg (by omega), if_neg (by omega), if_neg (by omega), if_neg (by omega), if_neg (by omega), if_neg (by omega), ho]
      unfold b_el
      simp
    refine s_X9_writeGathered_97 hxR ⟨by omega, by omega⟩ (by rw [hcdd]; exact hcg) ⟨by omega, by omega⟩ ⟨by omega, by omega⟩ fun _ => ⟨s1, ou, w4, b, s2, u1, c_headOf (d := d + 65) hW (by decide) (by decide) s3 (by decide) (fun M3 f3 => hnm f3) (by omega) (by omega) fun M7 f7 W7 => ?_⟩
    intro _ _
    have hT7 := hfrO f7
    refine ⟨fun g8 => c_writeValues (d := d + 1) (once := true) hT7 hl hlo hlo2 hyl (hvk f7) W7 fun M13 f13 W13 => ?_, fun g8 => c_writeValues (d := d + 1) (once := false) hT7 hl hlo hlo2 hyl (hvk f7) W7 fun M13 f13 W13 => ?_⟩
    · intro _ _
      rw [hwv true (by rw [g8]; rfl)] at W13
      exact hqn M13 (by omega) (f7.tr f13) W13
    · intro _ _
      rw [hwv false (beq_false_of_ne g8)] at W13
      exact hqn M13 (by omega) (f7.tr f13) W13
  have h195 : ∀ (p w0 : Int) (o : Option b_E), cd ≠ 2 → G_at (g_i M b) lo yl p o → w0 = (if p < 0 then 0 else p) → G_w x vs = G_1 x o → g_Run (d + 67) 158 195 [(0, .ref so), (1, g_n qx), (2, g_n vs.length), (3, g_n cd), (4, g_n (qx + 1)), (5, g_n (qx + 1 + x.2.1.length)), (6, g_n p)] [g_n w0] M (g_qV Q) := by
    intro p w0 o hc2 hp hw0 hgw
    have hst : ∃ nm, b_st (g_i M b) 246408 w0 30 (J_v o).1 nm (J_v o).2.2 ∧ (w0 + (b_el (J_v o).1 nm (J_v o).2.2).length ≤ lo ∨ lo + 40400 ≤ w0) := by
      rcases hp with ⟨z1, z2⟩ | ⟨y, z1, nm, z2, z3⟩
      · rw [z1, hw0, z2]
        exact ⟨[], b_st_no hno (by decide) (by decide) 30, Or.inl (by show (0 : Int) + ((2 : Nat) : Int) ≤ lo; omega)⟩
      · have := z2.2.2.2.1
        rw [z1, hw0, if_neg (by omega)]
        exact ⟨nm, z2, z3.elim Or.inl fun z => Or.inr z.1⟩
    obtain ⟨nm, hst, hdis⟩ := hst
    have hpR := hp.R
    have hw0R := hst.R (by decide)
    obtain ⟨kd1, kd2⟩ := G_kd hst.2.2.1
    refine s_X9_writeGathered_195 hxR ⟨by omega, by omega⟩ (by rw [hcdd]; exact hcg) ⟨by omega, by omega⟩ ⟨by omega, by omega⟩ hpR hw0R fun _ => ⟨s1, ou, w4, b, s2, c_kd2 (d := d + 66) s3 (by decide) hst ?_⟩
    intro _ _ _
    refine ⟨b, s2, u1, c_headOf (d := d + 65) hW kd1 kd2 s3 (by decide) (fun M3 f3 => hnm f3) (by omega) (by omega) fun M14 f14 W14 => ?_⟩
    intro _ _
    have hT14 := hfrO f14
    refine ⟨ou, hT14.1.2.2.2.1.1, b, hT14.1.1.2.1, hT14.1.2.2.2.2.2.1.1, c_outVal (d := d + 65) W14 hT14.1.1.2.2 (by decide) (k := (J_v o).1) (nm := nm) (vb := (J_v o).2.2) (D := 30) ⟨b_at_keep hst.1 fun k k1 k2 => f14.2.1 b k fun z => ?_, hst.2⟩ fun M22 f22 W22 => ?_⟩
    · rcases z with ⟨z, -⟩ | ⟨-, z⟩
      · exact (hNE ()).2.1 z
      · omega
    intro _ _
    refine hqn M22 hc2 (f14.tr f22) ?_
    rw [hgw]
    have ew : u ++ ((J_v o).1 :: (x.2.1 ++ [0])) ++ (J_v o).2.2 = u ++ b_el (G_1 x o).1 x.2.1 (G_1 x o).2.2 := by
      unfold b_el
      show _ = u ++ (J_v o).1 :: (x.2.1 ++ 0 :: (J_v o).2.2)
      simp
    rw [ew] at W22
    exact W22
  refine m_X9_writeGathered hxR ⟨by omega, by omega⟩ fun _ => ⟨s1, b, s2, b, s2, c_fi2 (d := d + 66) s3 (by decide) hxM ?_⟩
  intro _ _ _
  refine c_accumulatorOf (d := d + 63) s3 ha ?_
  rw [← hcdd]
  intro _ _ _
  refine ⟨⟨by omega, by omega⟩, b, s2, c_va2 (d := d + 66) s3 (by decide) hxM ?_⟩
  intro _ _ _
  rw [show qx + 2 + (x.2.1.length : Int) - 1 = qx + 1 + x.2.1.length by omega]
  have hcd0 : cd ≠ 0 := by rw [hcdd]; exact hcd
  have hcd8 : 0 ≤ cd ∧ cd ≤ 8 := by rw [hcdd]; exact hcR
  refine ⟨⟨by omega, by omega⟩, fun g1 => h43 (Or.inl g1), fun g1 => ⟨fun g2 => h43 (Or.inr g2), fun g2 => ⟨fun g7 => h97 (Or.inl g7), fun g7 => ⟨fun g8 => h97 (Or.inr g8), fun g8 => ⟨fun g5 => ?_, fun g5 => ⟨fun g6 => ?_, fun g6 => ⟨fun g3 => ?_, fun g3 => ?_⟩⟩⟩⟩⟩⟩⟩
  · -- the first
    obtain ⟨o, ho⟩ : ∃ o, vs[0]? = some o := ⟨_, List.getElem?_eq_getElem (by omega)⟩
    have hp := hv 0 o ho
    have hgw : G_w x vs = G_1 x o := by
      unfold G_w
      rw [hax, ← hcdd, if_neg (by omega), if_neg (by omega), if_neg (by omega), if_neg (by omega), if_pos g5]
      have : vs.headD none = o := by
        rcases vs with _ | ⟨o', r⟩
        · exact absurd hl1 (by decide)
        · exact Option.some.inj ho
      rw [this]
    have hp' : G_at (g_i M b) lo yl (g_i M va 0) o := hp
    exact ⟨va, t3, _, k3, ⟨by decide, by decide⟩, fun g0 => h195 _ 0 o (by omega) hp' (by rw [if_pos g0]) hgw, fun g0 => h195 _ _ o (by omega) hp' (by rw [if_neg g0]) hgw⟩
  · obtain ⟨o, ho⟩ : ∃ o, vs[vs.length - 1]? = some o := ⟨_, List.getElem?_eq_getElem (by omega)⟩
    have hp := hv (vs.length - 1) o ho
    have hmx : max ((vs.length : Int) - 1) 0 = ((vs.length - 1 : Nat) : Int) := by omega
    have hgw : G_w x vs = G_1 x o := by
      unfold G_w
      rw [hax, ← hcdd, if_neg (by omega), if_neg (by omega), if_neg (by omega), if_neg (by omega), if_neg (by omega), if_pos g6]
      have : vs.getLastD none = o := by
        rw [List.getLastD_eq_getLast?, List.getLast?_eq_getElem?, ho]
        rfl
      rw [this]
    rw [hmx]
    exact ⟨va, t3, ⟨by omega, by omega⟩, _, k3, ⟨by omega, by omega⟩, fun g0 => h195 _ 0 o (by omega) hp (by rw [if_pos g0]) hgw, fun g0 => h195 _ _ o (by omega) hp (by rw [if_neg g0]) hgw⟩
  · refine c_extreme (d := d + 1) (w := -1) (Or.inr rfl) s1 s2 s3 t3 k3 hl hlo hlo2 hyl hv fun p hp => ?_
    intro _ _ _
    have hgw : G_w x vs = G_1 x (G_ext (-1) vs) := by
      unfold G_w
      rw [hax, ← hcdd, if_neg (by omega), if_neg (by omega), if_pos g3]
    exact ⟨fun g0 => h195 p 0 _ (by omega) hp (by rw [if_pos g0]) hgw, fun g0 => h195 p p _ (by omega) hp (by rw [if_neg g0]) hgw⟩
  · refine c_extreme (d := d + 1) (w := 1) (Or.inl rfl) s1 s2 s3 t3 k3 hl hlo hlo2 hyl hv fun p hp => ?_
    intro _ _ _
    have hgw : G_w x vs = G_1 x (G_ext 1 vs) := by
      unfold G_w
      rw [hax, ← hcdd, if_neg (by omega), if_neg (by omega), if_neg g3, if_pos (by omega)]
    exact ⟨fun g0 => h195 p 0 _ (by omega) hp (by rw [if_pos g0]) hgw, fun g0 => h195 p p _ (by omega) hp (by rw [if_neg g0]) hgw⟩
end GELEM
