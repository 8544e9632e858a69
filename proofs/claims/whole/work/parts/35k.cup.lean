/-! REQUESTS, THE CLASS: update, what it needs -/
noncomputable def V_ds (hd : List b_E → Bool) (qc : Int) (cs : List b_E) (ds : List (Int × List b_E)) : List (Int × List b_E) := ds.map fun z => (z.1, U_nd hd qc cs z.2)
noncomputable def V_z1 (hd : List b_E → Bool) (qc : Int) (cs : List b_E) (ds : List (Int × List b_E)) : List (Bool × Int × List b_E) := ds.map fun z => (U_al hd qc cs z.2, z)
noncomputable def V_z2 (hd : List b_E → Bool) (qc : Int) (cs : List b_E) (ds : List (Int × List b_E)) : List (Bool × Int × List b_E) := ds.map fun z => (U_al hd qc cs z.2, z.1, U_nd hd qc cs z.2)
/-- documents without slots -/
def V_q (ds : List (Int × List b_E)) : List (Nat × Int × List b_E) := ds.map fun z => (0, z)
theorem V_q_dn (ds : List (Int × List b_E)) : R_dn (V_q ds) = ds := by
  unfold R_dn V_q
  rw [List.map_map]
  exact List.map_id' ds
theorem V_q_ds (hd : List b_E → Bool) (qc : Int) (cs : List b_E) (ds : List (Int × List b_E)) : R_dn (U_qs hd qc cs (V_q ds)) = V_ds hd qc cs ds := by
  unfold R_dn U_qs V_q V_ds
  rw [List.map_map, List.map_map]
  rfl
theorem V_q_sn (hd : List b_E → Bool) (qc : Int) (cs : List b_E) (ds : List (Int × List b_E)) : ((U_qs hd qc cs (V_q ds)).map fun z => z.2.2) = (V_ds hd qc cs ds).map Prod.snd := by
  unfold U_qs V_q V_ds
  rw [List.map_map, List.map_map, List.map_map]
  rfl
theorem V_q_z1 (hd : List b_E → Bool) (qc : Int) (cs : List b_E) (ds : List (Int × List b_E)) : Q_3 (U_z1 hd qc cs (V_q ds)) = V_z1 hd qc cs ds := by
  unfold Q_3 U_z1 V_q V_z1
  rw [List.map_map, List.map_map]
  rfl
theorem V_q_z2 (hd : List b_E → Bool) (qc : Int) (cs : List b_E) (ds : List (Int × List b_E)) : Q_3 (U_z2 hd qc cs (V_q ds)) = V_z2 hd qc cs ds := by
  unfold Q_3 U_z2 V_q V_z2
  rw [List.map_map, List.map_map]
  rfl
theorem V_z1_2 (hd : List b_E → Bool) (qc : Int) (cs : List b_E) (ds : List (Int × List b_E)) : (V_z1 hd qc cs ds).map (fun z => z.2) = ds := by
  unfold V_z1
  rw [List.map_map]
  exact List.map_id' ds
theorem V_z2_2 (hd : List b_E → Bool) (qc : Int) (cs : List b_E) (ds : List (Int × List b_E)) : (V_z2 hd qc cs ds).map (fun z => z.2) = V_ds hd qc cs ds := by
  unfold V_z2 V_ds
  rw [List.map_map]
  rfl
theorem V_ds_app (hd : List b_E → Bool) (qc : Int) (cs : List b_E) (A B : List (Int × List b_E)) : V_ds hd qc cs (A ++ B) = V_ds hd qc cs A ++ V_ds hd qc cs B := List.map_append
/-- the whole fits -/
def V_Fit (hd : List b_E → Bool) (qc : Int) (cs : List b_E) (st : Nat → I_T) (w : Nat) (ds : List (Int × List b_E)) : Prop := S_sum ((V_ds hd qc cs ds).map Prod.snd) ≤ 40000 ∧ ∀ x, 4 * w ≤ x → x < 4 * w + 4 → ∀ V T m1 m2, st x = some (V, T, m1, m2) → (((V_ds hd qc cs ds).map Prod.snd).map (I_num V)).sum ≤ 1000
theorem U_R_pc (pc pc2 qc : Int) (cs es : List b_E) : (U_R pc qc cs es).1.1 = (U_R pc2 qc cs es).1.1 ∧ (U_R pc qc cs es).2 = (U_R pc2 qc cs es).2 := by
  unfold U_R Z_end
  by_cases g : (Z_os (es, 0) (L_at qc cs)).1.1 = 0
  · rw [if_pos g, if_pos g]
    by_cases g1 : 2000 < (b_doc (Z_os (es, 0) (L_at qc cs)).2.1).length
    · rw [if_pos g1, if_pos g1]
      exact ⟨rfl, rfl⟩
    · rw [if_neg g1, if_neg g1]
      by_cases g2 : 16 < b_dp 31 1 (Z_os (es, 0) (L_at qc cs)).2.1
      · rw [if_pos g2, if_pos g2]
        exact ⟨rfl, rfl⟩
      · rw [if_neg g2, if_neg g2]
        exact ⟨rfl, rfl⟩
  · rw [if_neg g, if_neg g]
    exact ⟨rfl, rfl⟩
/-- what an update touches -/
def Ck_u : List Nat := [2, 6, 7, 8, 9, 10, 11, 12, 13, 14, 15, 72, 76, 90, 91]
theorem C_fx.up {T U : List Nat} {ι : Nat → Nat} {M M1 : g_M} (h : C_fx T ι M M1) (hT : ∀ a ∈ T, a ∈ U) : C_fx U ι M M1 := ⟨h.1, h.2.1, fun a ha h1 hn => h.2.2 a ha h1 fun z => hn (hT a z)⟩
section CUP
variable {d : Nat} {ι : Nat → Nat} {κ : Nat → Nat → Nat} {al sz : Nat → Nat × Nat} {cB eB : Int} {st : Nat → I_T} {D : Nat → List (Int × List b_E)} {gv : Nat → Int} {M M1 : g_M} {x w : Nat} {u : List Int}
theorem C_H.XO (h : C_H ι κ al sz cB eB st D gv M) : X_O (ι 10) (ι 2) (ι 11) (ι 12) (ι 13) (ι 14) (ι 15) M := ⟨⟨h.1.O (by decide), h.1.r (by decide), h.1.r (by decide), h.1.r (by decide), h.1.r (by decide)⟩, ⟨h.1.O (by decide), h.1.r (by decide), h.1.r (by decide), h.1.A (by decide), h.1.A (by decide), h.2.1.ne (by decide) (by decide) (by decide)⟩, h.1.A (by decide), h.1.A (by decide), h.1.O (by decide), h.1.r (by decide)⟩
def Ck_x : List Nat := [2, 10, 11, 12, 13, 14, 15]
/-- a change works -/
theorem C_H.xS (h : C_H ι κ al sz cB eB st D gv M) (f : g_fr (X_GS (ι 10) (ι 2) (ι 11) (ι 12) (ι 13) (ι 14) (ι 15)) M M1) (hO : X_O (ι 10) (ι 2) (ι 11) (ι 12) (ι 13) (ι 14) (ι 15) M1) (hb : ∀ k, k < 163608 → g_i M1 (ι 2) k = g_i M (ι 2) k) : C_H ι κ al sz cB eB st D gv M1 ∧ C_fx Ck_x ι M M1 := by
  have hS : ∀ y, X_GS (ι 10) (ι 2) (ι 11) (ι 12) (ι 13) (ι 14) (ι 15) y → ∃ a ∈ Ck_x, y = ι a := fun y z => by
    rcases z with z | (z | z | z) | z | z | z
    · exact ⟨10, by decide, z⟩
    · exact ⟨11, by decide, z⟩
    · exact ⟨12, by decide, z⟩
    · exact ⟨13, by decide, z⟩
    · exact ⟨15, by decide, z⟩
    · exact ⟨14, by decide, z⟩
    · exact ⟨2, by decide, z⟩
  have hsc : ∀ a ∈ Ck_x, a ∈ Ck_sc := by decide
  have hr : ¬ X_GS (ι 10) (ι 2) (ι 11) (ι 12) (ι 13) (ι 14) (ι 15) (ι 1) := fun z => by
    obtain ⟨a, ha, e⟩ := hS _ z
    exact h.2.1.ne (by decide) (Ck_sc_k a (hsc a ha)).1 (Ck_sc_k a (hsc a ha)).2.1.symm e
  have k := k_F.of f hr
  obtain ⟨⟨o1, o2, o3, o4, o5⟩, ⟨p1, p2, p3, -⟩, -, -, ow, owb⟩ := hO
  refine ⟨h.kF k (h.2.2.1.of f hr fun p n hp hk z => ?_) (fun y hy => ?_) (fun q hq => hb q (by omega)) fun l hl h1 hS1 => ?_, k.1, k.2.1, fun a ha h1 hn => h.1.sm h.2.2.1 k ha h1 fun z => ?_⟩
  · obtain ⟨a, ha, e⟩ := hS _ z
    exact h.1.pl (Ck_sc_k a (hsc a ha)).1 (Ck_sc_k a (hsc a ha)).2.1 hp hk e.symm
  · obtain ⟨a, ha, e⟩ := hS _ hy
    exact ⟨a, hsc a ha, e⟩
  · obtain ⟨a, ha, e⟩ := hS _ hS1
    have e := h.2.1.1 _ (Ck_r_k l hl).1 a (Ck_sc_k a (hsc a ha)).1 e
    have hx : ∀ l ∈ Ck_r, l.1 ∈ Ck_x → l = (10, 0, 2) ∨ l = (10, 1, 11) ∨ l = (10, 2, 14) ∨ l = (10, 3, 15) ∨ l = (11, 1, 12) ∨ l = (11, 2, 13) ∨ l = (15, 0, 2) := by decide
    rw [h.1.2.1 l hl]
    rcases hx l hl (by rw [e]; exact ha) with e | e | e | e | e | e | e <;> subst e
    · exact o2
    · exact o3
    · exact o4
    · exact o5
    · exact p2
    · exact p3
    · exact owb
  · obtain ⟨a2, ha2, e⟩ := hS _ z
    have e := h.2.1.1 _ ha a2 (Ck_sc_k a2 (hsc a2 ha2)).1 e
    rw [← e] at ha2
    exact hn ha2
/-- the Out of a shelf -/
theorem C_H.ou (h : C_H ι κ al sz cB eB st D gv M) (hw : w < 2) : g_r M (ι (67 + w)) 5 = some (ι (72 + 4 * w)) ∧ g_O M (ι (72 + 4 * w)) 4 ∧ g_r M (ι (72 + 4 * w)) 0 = some (ι 2) ∧ 72 + 4 * w ∈ Ck_k ∧ 72 + 4 * w ∈ Ck_sc ∧ 72 + 4 * w ∈ Ck_u := by
  have hw2 : w = 0 ∨ w = 1 := by omega
  rcases hw2 with e | e
  · subst e
    exact ⟨h.1.r (a := 67) (by decide), h.1.O (k := 72) (by decide), h.1.r (a := 72) (by decide), by decide, by decide, by decide⟩
  · subst e
    exact ⟨h.1.r (a := 68) (by decide), h.1.O (k := 76) (by decide), h.1.r (a := 76) (by decide), by decide, by decide, by decide⟩
theorem C_H.oS {S : Nat → Int → Prop} (h : C_H ι κ al sz cB eB st D gv M) (hw : w < 2) (f : e_fr S M M1) (hS : ∀ y k, S y k → y = ι (72 + 4 * w) ∨ (y = ι 2 ∧ 82808 ≤ k) ∨ y = ι 90 ∨ y = ι 91) : C_H ι κ al sz cB eB st D gv M1 ∧ C_fx Ck_u ι M M1 ∧ ∀ k, k < 82808 → g_i M1 (ι 2) k = g_i M (ι 2) k := by
  obtain ⟨-, -, -, o4, o5, o6⟩ := h.ou hw
  have hS2 : ∀ y k, S y k → ∃ a ∈ [72 + 4 * w, 2, 90, 91], y = ι a ∧ (a = 2 → ¬ (k < 4 ∨ (2008 ≤ k ∧ k < 82808))) := fun y k z => by
    rcases hS y k z with z | ⟨z, z2⟩ | z | z
    · exact ⟨72 + 4 * w, by simp, z, fun g => absurd g (by omega)⟩
    · exact ⟨2, by simp, z, fun _ => by omega⟩
    · exact ⟨90, by simp, z, fun g => absurd g (by decide)⟩
    · exact ⟨91, by simp, z, fun g => absurd g (by decide)⟩
  have hT : ∀ a ∈ [72 + 4 * w, 2, 90, 91], a ∈ Ck_sc ∧ a ∈ Ck_u := fun a ha => by
    simp only [List.mem_cons, List.not_mem_nil, or_false] at ha
    rcases ha with e | e | e | e
    · rw [e]
      exact ⟨o5, o6⟩
    · rw [e]
      decide
    · rw [e]
      decide
    · rw [e]
      decide
  refine ⟨h.es (T := [72 + 4 * w, 2, 90, 91]) f (fun a ha => (hT a ha).1) hS2, ⟨fun a c hc => ?_, by rw [f.1]; exact Nat.le_refl _, fun a ha h1 hn => ⟨funext fun k => f.2.1 _ _ fun z => ?_, funext fun k => f.2.2 _ _⟩⟩, fun k hk => f.2.1 _ _ fun z => ?_⟩
  · rw [f.sh]
    exact hc
  · obtain ⟨a2, ha2, e, -⟩ := hS2 _ _ z
    have e := h.2.1.1 _ ha a2 (Ck_sc_k a2 (hT a2 ha2).1).1 e
    rw [e] at hn
    exact hn (hT a2 ha2).2
  · rcases hS _ _ z with z | ⟨-, z2⟩ | z | z
    · exact h.2.1.ne (by decide) o4 (by omega) z
    · omega
    · exact h.2.1.ne (by decide) (by decide) (by decide) z
    · exact h.2.1.ne (by decide) (by decide) (by decide) z
/-- so far: the documents A are renewed, n are marked -/
def C_uA (ι : Nat → Nat) (κ : Nat → Nat → Nat) (al sz : Nat → Nat × Nat) (cB eB : Int) (st : Nat → I_T) (D : Nat → List (Int × List b_E)) (gv : Nat → Int) (w : Nat) (hd : List b_E → Bool) (qc : Int) (cs : List b_E) (M0 : g_M) (n : Nat) (A : List (Int × List b_E)) (M : g_M) : Prop := C_H ι κ al sz cB eB st D gv M ∧ C_fx Ck_u ι M0 M ∧ (∀ k, k < 82808 → g_i M (ι 2) k = g_i M0 (ι 2) k) ∧ c_Wr (ι (72 + 4 * w)) (ι 2) 246408 82808 123208 (H_sb ((V_ds hd qc cs A).map Prod.snd)) M ∧ (∀ (q : Nat) (z : Int × List b_E), (D w)[q]? = some z → g_i M (ι 90) q = if (if q < n then U_al hd qc cs z.2 else hd z.2) = true then 1 else 0) ∧ (82808 + (H_sb ((V_ds hd qc cs A).map Prod.snd)).length ≤ 123208 → ∀ q : Nat, q < A.length → g_i M (ι 91) q = 82808 + ((H_sb ((V_ds hd qc cs (A.take q)).map Prod.snd)).length : Int))
theorem c_upd183 {Q : g_M → Prop} {hd : List b_E → Bool} {qc v1 v3 v4 v6 : Int} {cs : List b_E} {M0 : g_M} {A : List (Int × List b_E)} {z : Int × List b_E} {nd : List b_E} {De : Nat} (S : C_uA ι κ al sz cB eB st D gv w hd qc cs M0 (A.length + 1) A M) (hw : w < 2) (hv1 : g_InR v1) (hv3 : 0 ≤ v3 ∧ v3 ≤ 1000000) (hv4 : g_InR v4) (hA : A.length < 200) (hnd : nd = U_nd hd qc cs z.2) (hs : b_st (g_i M (ι 2)) 246408 v6 De 3 [] (b_doc nd)) (hl : (b_doc nd).length ≤ 2000) (hpl : v6 + (b_el 3 [] (b_doc nd)).length ≤ 82808 ∨ 123208 ≤ v6) (hk : ∀ M1, C_uA ι κ al sz cB eB st D gv w hd qc cs M0 (A.length + 1) (A ++ [z]) M1 → g_Run (d + 3) 218 72 [(0, .ref (ι 0)), (1, g_n v1), (2, .ref (ι (72 + 4 * w))), (3, g_n (v3 + (b_doc nd).length)), (4, g_n v4), (5, g_n ((A.length : Int) + 1))] [] M1 (g_qV Q)) : g_Run (d + 3) 218 183 [(0, .ref (ι 0)), (1, g_n v1), (2, .ref (ι (72 + 4 * w))), (3, g_n v3), (4, g_n v4), (5, g_n A.length), (6, g_n v6)] [] M (g_qV Q) := by
  obtain ⟨H, f0, b0, W, hm, h91⟩ := S
  obtain ⟨o1, o2, o3, o4, o5, o6⟩ := H.ou hw
  obtain ⟨u, hu⟩ : ∃ u, u = H_sb ((V_ds hd qc cs A).map Prod.snd) := ⟨_, rfl⟩
  rw [← hu] at W h91
  have hdl := b_doc_len nd
  have hel := b_el_len 3 [] (b_doc nd)
  rw [List.length_nil] at hel
  have s4 := hs.2.2.2.1
  have s5 := hs.2.2.2.2
  have e2 : H_sb ((V_ds hd qc cs [z]).map Prod.snd) = b_el 3 [] (b_doc nd) := by
    have e1 : (V_ds hd qc cs [z]).map Prod.snd = [nd] := by
      rw [hnd]
      rfl
    have e0 : H_sb [] = [] := rfl
    rw [e1, H_sb_c, e0, List.append_nil]
  have e3 : H_sb ((V_ds hd qc cs (A ++ [z])).map Prod.snd) = u ++ b_el 3 [] (b_doc nd) := by
    rw [V_ds_app, List.map_append, H_sb_app, ← hu, e2]
  refine s_X11_update_183 (a0 := ι 0) (a2 := ι (72 + 4 * w)) hv1 ⟨by omega, by omega⟩ hv4 ⟨by omega, by omega⟩ (hs.R (by decide)) fun _ => ⟨H.1.O (by decide), ι 91, H.1.r (by decide), o2, 200, H.1.A (by decide), ⟨by omega, by omega⟩, fun M8 e8 _ => ?_⟩
  have f8 : e_fr (fun y _ => y = ι 91) M M8 := by
    rw [e8]
    exact e_fr.wi _ rfl
  obtain ⟨H8, f08, b8⟩ := H.oS hw f8 fun y k z => Or.inr (Or.inr (Or.inr z))
  have n91 : ∀ {a : Nat}, a ∈ Ck_k → a ≠ 91 → g_i M8 (ι a) = g_i M (ι a) := fun ha hn => funext fun k => f8.2.1 _ _ fun z => H.2.1.ne ha (by decide) hn z
  have hb8 := n91 (a := 2) (by decide) (by decide)
  have W8 : c_Wr (ι (72 + 4 * w)) (ι 2) 246408 82808 123208 u M8 := W.sm f08.1 ⟨n91 o4 (by omega), funext fun k => f8.2.2 _ _⟩ hb8
  have hs8 : b_st (g_i M8 (ι 2)) 246408 v6 De 3 [] (b_doc nd) := by
    rw [hb8]
    exact hs
  refine ⟨ι 2, H8.1.r (by decide), ι 2, H8.1.r (by decide), c_nx2 (d := d + 2) (H8.1.A (by decide)) (by decide) hs8 ?_⟩
  intro _ _ _
  refine c_copy (n1 := 246408) (d := d + 2) W8 (H8.1.A (by decide)) (by decide) hs8.1 s4 (by omega) fun M9 f9 W9 => ?_
  intro _ _
  obtain ⟨H9, f09, b9⟩ := H8.oS hw f9 fun y k z => by
    rcases z with ⟨z, -⟩ | ⟨z, z2, -⟩
    · exact Or.inl z
    · exact Or.inr (Or.inl ⟨z, z2⟩)
  have n9 : ∀ {a : Nat}, a ∈ Ck_k → a ≠ 72 + 4 * w → a ≠ 2 → g_i M9 (ι a) = g_i M8 (ι a) := fun ha h1 h2 => funext fun k => f9.2.1 _ _ fun z => by
    rcases z with ⟨z, -⟩ | ⟨z, -⟩
    · exact H.2.1.ne ha o4 h1 z
    · exact H.2.1.ne ha (by decide) h2 z
  have hs9 : b_at (g_i M9 (ι 2)) v6 (b_el 3 [] (b_doc nd)) := b_at_keep hs8.1 fun k k1 k2 => f9.2.1 _ _ fun z => by
    rcases z with ⟨z, -⟩ | ⟨-, z1, z2⟩
    · exact H.2.1.ne (by decide) o4 (by omega) z
    · omega
  have hs9' : b_st (g_i M9 (ι 2)) 246408 v6 De 3 [] (b_doc nd) := ⟨hs9, hs8.2⟩
  obtain ⟨v1', -, -, -⟩ := hs9'.val
  have v1'' : b_at (g_i M9 (ι 2)) (v6 + 2 + (([] : List Int).length : Int)) (b_le4 (((b_ser nd).length : Int) + 5) ++ (b_ser nd ++ [0])) := v1'
  rw [List.length_nil] at v1''
  obtain ⟨a1, -⟩ := b_app.mp v1''
  refine ⟨ι 2, H9.1.r (by decide), ⟨by omega, by omega⟩, c_w4 (d := d + 2) (n := 246408) (H9.1.A (by decide)) ⟨by decide, by decide⟩ (by omega) (by omega) ?_⟩
  rw [show v6 + 2 = v6 + 2 + ((0 : Nat) : Int) by omega, b_w4_le4 (by omega) (by omega) a1, show (((b_ser nd).length : Int) + 5) = ((b_doc nd).length : Int) by omega]
  intro _ _ _
  refine ⟨⟨by omega, by omega⟩, ⟨by omega, by omega⟩, hk M9 ⟨H9, f0.tr (f08.tr f09), fun k hk => ((b9 k hk).trans (b8 k hk)).trans (b0 k hk), by rw [e3]; exact W9, fun q y hq => ?_, fun hfit q hq => ?_⟩⟩
  · rw [n9 (a := 90) (by decide) (by omega) (by decide), n91 (by decide) (by decide)]
    exact hm q y hq
  · rw [e3, List.length_append] at hfit
    rw [List.length_append, List.length_singleton] at hq
    rw [n9 (a := 91) (by decide) (by omega) (by decide), e8, g_i_ws]
    by_cases e : (q : Int) = A.length
    · rw [if_pos e]
      have e : q = A.length := by omega
      rw [e, List.take_left', ← hu]
      · rcases W.2.2.2.2 with ⟨-, c2, -, -⟩ | ⟨-, -, -, c4⟩
        · exact c2
        · omega
      · rfl
    · rw [if_neg e, List.take_append_of_le_length (by omega)]
      exact h91 (by omega) q (by omega)
end CUP
