/-! THE CLASS'S HOUSE: what requests do to one index -/
/-- all of the book but the room stays -/
def C_f1 (ι : Nat → Nat) (M M1 : g_M) : Prop := g_ext M M1 ∧ M.1.length ≤ M1.1.length ∧ ∀ a ∈ Ck_k, a ≠ 1 → g_i M1 (ι a) = g_i M (ι a) ∧ g_r M1 (ι a) = g_r M (ι a)
theorem C_f1.rf (ι : Nat → Nat) (M : g_M) : C_f1 ι M M := ⟨g_ext.rf M, Nat.le_refl _, fun _ _ _ => ⟨rfl, rfl⟩⟩
theorem C_f1.tr {ι : Nat → Nat} {M M1 M2 : g_M} (h : C_f1 ι M M1) (h2 : C_f1 ι M1 M2) : C_f1 ι M M2 := ⟨h.1.tr h2.1, Nat.le_trans h.2.1 h2.2.1, fun a ha ha1 => ⟨(h2.2.2 a ha ha1).1.trans (h.2.2 a ha ha1).1, (h2.2.2 a ha ha1).2.trans (h.2.2 a ha ha1).2⟩⟩
theorem c_Wr.sm {o buf : Nat} {n lo lim : Int} {x : List Int} {M M1 : g_M} (h : c_Wr o buf n lo lim x M) (hx : g_ext M M1) (h1 : g_i M1 o = g_i M o ∧ g_r M1 o = g_r M o) (h2 : g_i M1 buf = g_i M buf) : c_Wr o buf n lo lim x M1 := by
  obtain ⟨⟨a1, a2, a3, a4⟩, b1, b2, c1⟩ := h
  refine ⟨⟨a1.up hx, by rw [h1.2]; exact a2, a3.up hx, a4⟩, b1, b2, ?_⟩
  unfold w_W at c1 ⊢
  rw [h1.1, h2]
  exact c1
theorem C_up_self (sz : Nat → Nat × Nat) (x : Nat) : C_up sz x (sz x) = sz := by
  funext y
  unfold C_up
  by_cases g : y = x
  · rw [if_pos g, g]
  · rw [if_neg g]
theorem Ck_w {w : Nat} (hw : w < 2) : 67 + w ∈ Ck_k ∧ 69 + 4 * w ∈ Ck_k ∧ 70 + 4 * w ∈ Ck_k ∧ 67 + w ≠ 1 ∧ 69 + 4 * w ≠ 1 ∧ 70 + 4 * w ≠ 1 := by
  have hw2 : w = 0 ∨ w = 1 := by omega
  rcases hw2 with e | e
  · subst e
    decide
  · subst e
    decide
section CHD
variable {d : Nat} {ι : Nat → Nat} {κ : Nat → Nat → Nat} {al sz : Nat → Nat × Nat} {cB eB : Int} {st : Nat → I_T} {D : Nat → List (Int × List b_E)} {gv : Nat → Int} {M M1 : g_M} {x w : Nat} {zs : List (Bool × Int × List b_E)}
theorem C_H.no {T : I_T} (h : C_H ι κ al sz cB eB st D gv M) (hx : x < 8) (hst : st x = none) : g_O M (κ x 0) 3 ∧ g_i M (κ x 0) 9 = 0 := by
  have h9 := (h.2.2.2.2.2.1 x hx).2
  rw [hst] at h9
  exact ⟨h.1.xO hx (by decide), h9⟩
theorem C_H.f1 {S : Nat → Prop} (h : C_H ι κ al sz cB eB st D gv M) (hx : x < 8) (k : k_F S (ι 1) M M1) (hS : ∀ y, S y → I_S3 (κ x 0) (κ x 8) (κ x 9) y ∨ B_own (κ x 7) M y) (hr : g_r M1 (κ x 0) = g_r M (κ x 0)) : C_f1 ι M M1 := ⟨k.1, k.2.1, (h.oth hx k hS hr).2.2.2.2⟩
/-- keys are looked for -/
theorem C_H.fI {V : I_V} {T : N_T I_E} {m1 m2 : Int} (h : C_H ι κ al sz cB eB st D gv M) (hx : x < 8) (hst : st x = some (V, T, m1, m2)) (f : I_Fr (κ x 0) (κ x 8) (κ x 9) (ι 1) M M1) (S : I_St V (κ x 0) (ι 1) (ι 2) (κ x 1) (κ x 2) (κ x 3) (al x).1 (κ x 4) (κ x 5) (κ x 6) (al x).2 (κ x 7) (κ x 8) (κ x 9) 246408 (cB + C_sm (C_c sz) 8 - C_c sz x + (B_ws (sz x).1 + B_wn (sz x).2)) (eB + C_sm (C_e sz) 8 - C_e sz x + (3 * ((sz x).1 : Int) + 5 * ((sz x).2 : Int))) [] M1) : C_H ι κ al sz cB eB st D gv M1 ∧ C_f1 ι M M1 := by
  obtain ⟨Z, h9, ⟨h11, h12⟩, hm1, hm2⟩ := h.Z hx hst
  have fH := I_Fr.H Z f
  have Z1 := Z.fr f S
  have h2 := h.ih hx hst fH Z1 ((f.2.1 11 (by decide) (by decide) (by decide)).trans h11) ((f.2.1 12 (by decide) (by decide) (by decide)).trans h12) hm1 hm2
  rw [C_up_self, ← hst, I_up_self] at h2
  exact ⟨h2, h.f1 hx fH.1 (fun y hy => hy) fH.2.2.2⟩
theorem C_H.Y (hw : w < 2) : C_Y ι κ al (ι (69 + 4 * w)) ∧ C_Y ι κ al (ι (70 + 4 * w)) ∧ C_Y ι κ al (ι 90) := ⟨Or.inl ⟨_, (Ck_w hw).2.1, rfl⟩, Or.inl ⟨_, (Ck_w hw).2.2.1, rfl⟩, Or.inl ⟨90, by decide, rfl⟩⟩
theorem c_inH {Q : g_M → Prop} (h : C_H ι κ al sz cB eB st D gv M) (hx : x < 8) (hw : w < 2) (hsh : I_sh (ι 2) (ι (67 + w)) (ι (69 + 4 * w)) (ι (70 + 4 * w)) (ι 90) 246408 zs M) (hcan : ∀ V T m1 m2, st x = some (V, T, m1, m2) → I_can V T (I_mk V zs)) (hq : ∀ sz1 M1, C_H ι κ al sz1 cB eB (I_up st x (I_inn zs (st x))) D gv M1 → C_f1 ι M M1 → I_sh (ι 2) (ι (67 + w)) (ι (69 + 4 * w)) (ι (70 + 4 * w)) (ι 90) 246408 zs M1 → Q M1) : g_Call (d + 62) 72 [.ref (κ x 0), .ref (ι (67 + w)), .ref (ι 90)] M (g_qV Q) := by
  cases hst : st x with
  | none =>
    obtain ⟨n1, n2⟩ := h.no (T := none) hx hst
    refine c_takesInN (d := d + 60) n1 n2 hsh (hq sz M ?_ (C_f1.rf ι M) hsh)
    have e : I_inn zs (st x) = st x := by
      rw [hst]
      rfl
    rw [e, I_up_self]
    exact h
  | some t =>
    obtain ⟨V, T, m1, m2⟩ := t
    obtain ⟨Z, h9, ⟨h11, h12⟩, hm1, hm2⟩ := h.Z hx hst
    refine c_takesIn (d := d) Z h9 hsh (C_H.Y hw) h11 h12 hm1 hm2 (hcan V T m1 m2 hst) fun M1 j1 i1 Z1 f1 s1 g11 g12 => ?_
    have h2 := h.ih hx hst f1 Z1 g11 g12 (I_mn_01 hm1 _) (I_mn_01 hm2 _)
    have e : I_inn zs (st x) = some (V, I_in V (I_mk V zs) T, I_mn (I_key1 V) m1 zs, I_mn (I_key2 V) m2 zs) := by
      rw [hst]
      rfl
    rw [← e] at h2
    exact hq _ M1 h2 (h.f1 hx f1.1 (fun y hy => hy) f1.2.2.2) s1
theorem c_outH {Q : g_M → Prop} (h : C_H ι κ al sz cB eB st D gv M) (hx : x < 8) (hw : w < 2) (hsh : I_sh (ι 2) (ι (67 + w)) (ι (69 + 4 * w)) (ι (70 + 4 * w)) (ι 90) 246408 zs M) (hcan : ∀ V T m1 m2, st x = some (V, T, m1, m2) → I_cgo V T (I_mk V zs)) (hq : ∀ sz1 M1, C_H ι κ al sz1 cB eB (I_up st x (I_rem zs (st x))) D gv M1 → C_f1 ι M M1 → I_sh (ι 2) (ι (67 + w)) (ι (69 + 4 * w)) (ι (70 + 4 * w)) (ι 90) 246408 zs M1 → Q M1) : g_Call (d + 62) 73 [.ref (κ x 0), .ref (ι (67 + w)), .ref (ι 90)] M (g_qV Q) := by
  cases hst : st x with
  | none =>
    obtain ⟨n1, n2⟩ := h.no (T := none) hx hst
    refine c_takesOutN (d := d + 60) n1 n2 hsh (hq sz M ?_ (C_f1.rf ι M) hsh)
    have e : I_rem zs (st x) = st x := by
      rw [hst]
      rfl
    rw [e, I_up_self]
    exact h
  | some t =>
    obtain ⟨V, T, m1, m2⟩ := t
    obtain ⟨Z, h9, ⟨h11, h12⟩, hm1, hm2⟩ := h.Z hx hst
    refine c_takesOut (d := d) Z h9 hsh (C_H.Y hw) (hcan V T m1 m2 hst) fun M1 j1 Z1 f1 s1 g11 g12 => ?_
    have h2 := h.ih hx hst f1 Z1 (g11.trans h11) (g12.trans h12) hm1 hm2
    have e : I_rem zs (st x) = some (V, I_out V (I_mk V zs) T, m1, m2) := by
      rw [hst]
      rfl
    rw [← e] at h2
    exact hq _ M1 h2 (h.f1 hx f1.1 (fun y hy => hy) f1.2.2.2) s1
/-- whether one more document's entries fit -/
theorem c_fitAH {Q : Int → g_M → Prop} {nm : List Int} {dp : Int} {es : List b_E} (h : C_H ι κ al sz cB eB st D gv M) (hx : x < 8) (hnm : nm.length ≤ 50) (hd : b_st (g_i M (ι 2)) 246408 dp 16 3 nm (b_doc es)) (hl : (b_doc es).length ≤ 2000) (hT : ∀ V T m1 m2, st x = some (V, T, m1, m2) → (N_all T).length ≤ 1000) (hy : I_fit es (st x) → ∀ M1, C_H ι κ al sz cB eB st D gv M1 → C_f1 ι M M1 → Q 1 M1) (hn : ¬ I_fit es (st x) → ∀ M1, C_H ι κ al sz cB eB st D gv M1 → C_f1 ι M M1 → Q 0 M1) : g_Call (d + 62) 68 [.ref (κ x 0), g_n dp] M (g_qI Q) := by
  cases hst : st x with
  | none =>
    obtain ⟨n1, n2⟩ := h.no (T := none) hx hst
    refine c_fitsAnotherN (d := d + 61) (hd.R (by decide)) n1 n2 (hy ?_ M h (C_f1.rf ι M))
    intro V T m1 m2 e
    rw [hst] at e
    exact absurd e (by simp)
  | some t =>
    obtain ⟨V, T, m1, m2⟩ := t
    obtain ⟨Z, h9, -⟩ := h.Z hx hst
    have hTl := hT V T m1 m2 hst
    refine c_fitsAnother (d := d) (k := (N_all T).length) hnm Z.1 h9 Z.2.1.gd.2 hTl hd hl fun M1 f1 S1 => ?_
    obtain ⟨h2, f2⟩ := h.fI hx hst f1 S1
    have hiff : I_fit es (st x) ↔ (N_all T).length + I_num V es ≤ 1000 := by
      rw [hst]
      refine ⟨fun g => g V T m1 m2 rfl, fun g V2 T2 n1 n2 e => ?_⟩
      have e := Option.some.inj e
      injection e with e1 e
      injection e with e2 e
      rw [← e1, ← e2]
      exact g
    by_cases g : (N_all T).length + I_num V es ≤ 1000
    · rw [if_pos g]
      exact hy (hiff.mpr g) M1 h2 f2
    · rw [if_neg g]
      exact hn (fun z => g (hiff.mp z)) M1 h2 f2
/-- whether all these documents' entries fit -/
theorem c_fitLH {Q : Int → g_M → Prop} {da : Nat} {ds : List (List b_E)} (h : C_H ι κ al sz cB eB st D gv M) (hx : x < 8) (hA : g_A M da 1 200) (hd : I_ds (ι 2) da 246408 ds M) (hl : ds.length ≤ 200) (hy : (∀ V T m1 m2, st x = some (V, T, m1, m2) → (ds.map (I_num V)).sum ≤ 1000) → ∀ M1, C_H ι κ al sz cB eB st D gv M1 → C_f1 ι M M1 → Q 1 M1) (hn : ¬ (∀ V T m1 m2, st x = some (V, T, m1, m2) → (ds.map (I_num V)).sum ≤ 1000) → ∀ M1, C_H ι κ al sz cB eB st D gv M1 → C_f1 ι M M1 → Q 0 M1) : g_Call (d + 63) 67 [.ref (κ x 0), .ref da, g_n ds.length] M (g_qI Q) := by
  cases hst : st x with
  | none =>
    obtain ⟨n1, n2⟩ := h.no (T := none) hx hst
    refine c_fitsAllN (d := d + 61) n1 n2 hA (by decide) (by omega) (hy ?_ M h (C_f1.rf ι M))
    intro V T m1 m2 e
    rw [hst] at e
    exact absurd e (by simp)
  | some t =>
    obtain ⟨V, T, m1, m2⟩ := t
    obtain ⟨Z, h9, -⟩ := h.Z hx hst
    refine c_fitsAll (d := d) Z.1 h9 hA (by decide) (by unfold k_n; omega) hd (by decide) (by omega) fun M1 f1 S1 => ?_
    obtain ⟨h2, f2⟩ := h.fI hx hst f1 S1
    have hiff : (∀ V T m1 m2, st x = some (V, T, m1, m2) → (ds.map (I_num V)).sum ≤ 1000) ↔ (ds.map (I_num V)).sum ≤ 1000 := by
      rw [hst]
      refine ⟨fun g => g V T m1 m2 rfl, fun g V2 T2 n1 n2 e => ?_⟩
      have e := Option.some.inj e
      injection e with e1 e
      rw [← e1]
      exact g
    by_cases g : (ds.map (I_num V)).sum ≤ 1000
    · rw [if_pos g]
      exact hy (hiff.mpr g) M1 h2 f2
    · rw [if_neg g]
      exact hn (fun z => g (hiff.mp z)) M1 h2 f2
end CHD
