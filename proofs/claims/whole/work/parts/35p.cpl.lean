/-! REQUESTS, THE CLASS: pipelines, in the house -/
def Ck_p : List Nat := [2, 6, 7, 8, 9, 20, 21, 22, 23, 24, 25, 26, 27, 28, 29, 30, 31, 32, 33, 35, 36, 37, 38, 39]
section CPL
variable {d : Nat} {ι : Nat → Nat} {κ : Nat → Nat → Nat} {al sz : Nat → Nat × Nat} {cB eB : Int} {st : Nat → I_T} {D : Nat → List (Int × List b_E)} {gv : Nat → Int} {M M0 M1 : g_M} {x w w' : Nat} {u : List Int}
theorem C_H.w13 {s : Nat} (h : C_H ι κ al sz cB eB st D gv M) (hM : M1 = g_wr M (ι 20) 13 (some s)) : C_H ι κ al sz cB eB st D gv M1 ∧ C_fx Ck_p ι M M1 ∧ g_r M1 (ι 20) 13 = some s ∧ g_i M1 (ι 2) = g_i M (ι 2) := by
  have er : ∀ y k, ¬ (y = ι 20 ∧ k = 13) → g_r M1 y k = g_r M y k := fun y k h => by
    rw [hM, g_r_wr, if_neg h]
  have ei : ∀ y, g_i M1 y = g_i M y := fun y => by
    rw [hM]
    rfl
  have f : g_fr (fun y => y = ι 20) M M1 := ⟨by rw [hM]; rfl, fun y hy => ⟨ei y, funext fun k => er y k fun z => hy z.1⟩⟩
  have hr : ¬ ι 1 = ι 20 := h.2.1.ne (by decide) (by decide) (by decide)
  have k := k_F.of f hr
  refine ⟨h.kF k (h.2.2.1.of f hr fun p n hp hk z => h.1.pl (a := 20) (by decide) (by decide) hp hk z.symm) (fun y hy => ⟨20, by decide, hy⟩) (fun q _ => by rw [ei]) fun l hl h1 hS => ?_, ⟨k.1, k.2.1, fun a ha h1 hn => ⟨ei _, funext fun j => er _ _ fun z => ?_⟩⟩, by rw [hM, g_r_wr, if_pos ⟨rfl, rfl⟩], ei _⟩
  · have e := h.2.1.1 _ (Ck_r_k l hl).1 20 (by decide) hS
    have hx : ∀ l ∈ Ck_r, l.1 = 20 → l.2.1 ≠ 13 := by decide
    exact er _ _ fun z => hx l hl e z.2
  · have e := h.2.1.1 _ ha 20 (by decide) z.1
    rw [e] at hn
    exact hn (by decide)
theorem C_H.kr (h : C_H ι κ al sz cB eB st D gv M) {s y : Nat} (hs : s < 4) (e : g_r M (ι 34) s = some y) : y = ι (35 + s) := by
  have h4 : s = 0 ∨ s = 1 ∨ s = 2 ∨ s = 3 := by omega
  have e1 : g_r M (ι 34) (s : Int) = some (ι (35 + s)) := by
    rcases h4 with e | e | e | e <;> subst e
    · exact h.1.r (a := 34) (f := 0) (by decide)
    · exact h.1.r (a := 34) (f := 1) (by decide)
    · exact h.1.r (a := 34) (f := 2) (by decide)
    · exact h.1.r (a := 34) (f := 3) (by decide)
  exact Option.some.inj (e.symm.trans e1)
theorem C_H.pC (h : C_H ι κ al sz cB eB st D gv M) (hw : w' < 2) (h13 : g_r M (ι 20) 13 = some (ι (67 + w'))) : P_C (ι 20) (ι 1) (ι 2) (ι 21) (ι 22) (ι 23) (ι 24) (ι 25) (ι 26) (ι 27) (ι 28) (ι 29) (ι 30) (ι (67 + w')) (ι (69 + 4 * w')) (ι 31) (ι 32) (ι 33) (ι 34) (ι 39) (ι 6) (ι 7) (ι 8) (ι 9) (cB + C_sm (C_c sz) 8) (eB + C_sm (C_e sz) 8) M := by
  obtain ⟨w1, w2, w3, w4, w5, w6⟩ := Ck_w hw
  have hs := h.2.2.2.2.1 w' hw
  have hb := h.1
  have hj := h.2.1
  have hpo : p_P M (ι 21) (ι 22) (ι 23) := ⟨hb.O (by decide), hb.r (by decide), hb.r (by decide), hb.A (by decide), hb.A (by decide), hj.ne (by decide) (by decide) (by decide)⟩
  have htp : p_P M (ι 24) (ι 25) (ι 26) := ⟨hb.O (by decide), hb.r (by decide), hb.r (by decide), hb.A (by decide), hb.A (by decide), hj.ne (by decide) (by decide) (by decide)⟩
  have hqo : p_P M (ι 7) (ι 8) (ι 9) := ⟨hb.O (by decide), hb.r (by decide), hb.r (by decide), hb.A (by decide), hb.A (by decide), hj.ne (by decide) (by decide) (by decide)⟩
  have hST : S_T (ι 20) (ι 2) (ι 21) (ι 22) (ι 23) (ι 27) (ι 28) (ι 29) (ι 30) M := ⟨⟨hb.O (by decide), hb.r (by decide), hb.A (by decide)⟩, hb.r (by decide), hpo, ⟨hb.r (by decide), hb.r (by decide), hb.r (by decide), hb.r (by decide)⟩, ⟨hb.A (by decide), hb.A (by decide), hj.ne (by decide) (by decide) (by decide)⟩, ⟨hb.O (by decide), hb.r (by decide)⟩, ⟨hb.O (by decide), hb.r (by decide)⟩, hj.ne (by decide) (by decide) (by decide)⟩
  refine ⟨⟨hST, hb.r (by decide), ⟨hb.r (by decide), htp, hj.ne (by decide) (by decide) (by decide), hj.ne (by decide) (by decide) (by decide), hj.ne (by decide) (by decide) (by decide), hj.ne (by decide) (by decide) (by decide), hj.ne (by decide) (by decide) (by decide)⟩, h13, hs.1.1, hs.1.2.2.1, hs.1.2.2.2.2.1, hj.ne w2 (by decide) (by omega), hj.ne w2 (by decide) (by omega)⟩, ⟨hST, ⟨hb.r (by decide), hb.r (by decide), hb.r (by decide)⟩, ⟨hb.A (by decide), hb.A (by decide), hb.A (by decide)⟩, hj.ne (by decide) (by decide) (by decide), hj.ne (by decide) (by decide) (by decide), hj.ne (by decide) (by decide) (by decide), hj.ne (by decide) (by decide) (by decide), hj.ne (by decide) (by decide) (by decide), hj.ne (by decide) (by decide) (by decide), hj.ne (by decide) (by decide) (by decide), hj.ne (by decide) (by decide) (by decide), hj.ne (by decide) (by decide) (by decide)⟩, ⟨hb.r (by decide), h.2.2.1, ⟨hb.r (by decide), hb.A (by decide), hj.ne (by decide) (by decide) (by decide), hj.ne (by decide) (by decide) (by decide)⟩, ⟨hb.r (by decide), hb.A (by decide)⟩, ⟨hb.r (by decide), hb.A (by decide)⟩, fun s hs4 => ?_, fun s s2 row hs4 hs24 e1 e2 => ?_⟩, ⟨hb.O (by decide), hb.r (by decide), hb.r (by decide), hb.r (by decide)⟩, hqo, ⟨hj.ne (by decide) (by decide) (by decide), hj.ne (by decide) (by decide) (by decide)⟩, hj.ne w2 (by decide) (by omega), hj.ne w2 (by decide) (by omega), hj.ne w2 (by decide) (by omega), fun s hs4 z => ?_⟩
  · have h4 : s = 0 ∨ s = 1 ∨ s = 2 ∨ s = 3 := by omega
    rcases h4 with e | e | e | e <;> subst e
    · exact ⟨ι 35, hb.r (a := 34) (f := 0) (by decide), hb.A (by decide), hj.ne (by decide) (by decide) (by decide), hj.ne (by decide) (by decide) (by decide), hj.ne (by decide) (by decide) (by decide)⟩
    · exact ⟨ι 36, hb.r (a := 34) (f := 1) (by decide), hb.A (by decide), hj.ne (by decide) (by decide) (by decide), hj.ne (by decide) (by decide) (by decide), hj.ne (by decide) (by decide) (by decide)⟩
    · exact ⟨ι 37, hb.r (a := 34) (f := 2) (by decide), hb.A (by decide), hj.ne (by decide) (by decide) (by decide), hj.ne (by decide) (by decide) (by decide), hj.ne (by decide) (by decide) (by decide)⟩
    · exact ⟨ι 38, hb.r (a := 34) (f := 3) (by decide), hb.A (by decide), hj.ne (by decide) (by decide) (by decide), hj.ne (by decide) (by decide) (by decide), hj.ne (by decide) (by decide) (by decide)⟩
  · have k1 := h.kr hs4 e1
    have k2 := h.kr hs24 e2
    have k3 : ∀ s : Nat, s < 4 → 35 + s ∈ Ck_k := by decide
    have := hj.1 _ (k3 s hs4) _ (k3 s2 hs24) (k1.symm.trans k2)
    omega
  · have k1 := h.kr hs4 z
    have k3 : ∀ s : Nat, s < 4 → 35 + s ∈ Ck_k := by decide
    have := hj.1 _ w2 _ (k3 s hs4) k1
    omega
theorem C_H.pBk (h : C_H ι κ al sz cB eB st D gv M) {y : Nat} (z : P_B (ι 20) (ι 2) (ι 21) (ι 22) (ι 23) (ι 24) (ι 25) (ι 26) (ι 27) (ι 28) (ι 29) (ι 30) (ι 31) (ι 32) (ι 33) (ι 34) (ι 39) (ι 6) (ι 7) (ι 8) (ι 9) M y) : ∃ a ∈ Ck_p, y = ι a := by
  rcases z with ((z | z | z) | (z | z | z | z | z)) | z
  · rcases z with z | z | (z | z | z) | z | z | z | z
    · exact ⟨20, by decide, z⟩
    · exact ⟨2, by decide, z⟩
    · exact ⟨21, by decide, z⟩
    · exact ⟨22, by decide, z⟩
    · exact ⟨23, by decide, z⟩
    · exact ⟨27, by decide, z⟩
    · exact ⟨28, by decide, z⟩
    · exact ⟨29, by decide, z⟩
    · exact ⟨30, by decide, z⟩
  · rcases z with z | z | z
    · exact ⟨24, by decide, z⟩
    · exact ⟨25, by decide, z⟩
    · exact ⟨26, by decide, z⟩
  · rcases z with z | z | z
    · exact ⟨31, by decide, z⟩
    · exact ⟨32, by decide, z⟩
    · exact ⟨33, by decide, z⟩
  · rcases z with (z | z | z) | ⟨s, hs, z⟩
    · exact ⟨21, by decide, z⟩
    · exact ⟨22, by decide, z⟩
    · exact ⟨23, by decide, z⟩
    · have k3 : ∀ s : Nat, s < 4 → 35 + s ∈ Ck_p := by decide
      exact ⟨35 + s, k3 s hs, h.kr hs z⟩
  · exact ⟨39, by decide, z⟩
  · exact ⟨33, by decide, z⟩
  · exact ⟨30, by decide, z⟩
  · exact ⟨29, by decide, z⟩
  · rcases z with z | z | z | z
    · exact ⟨6, by decide, z⟩
    · exact ⟨7, by decide, z⟩
    · exact ⟨8, by decide, z⟩
    · exact ⟨9, by decide, z⟩
theorem C_H.pS {sv oa : Nat} (h : C_H ι κ al sz cB eB st D gv M) (hU : S_U (P_B (ι 20) (ι 2) (ι 21) (ι 22) (ι 23) (ι 24) (ι 25) (ι 26) (ι 27) (ι 28) (ι 29) (ι 30) (ι 31) (ι 32) (ι 33) (ι 34) (ι 39) (ι 6) (ι 7) (ι 8) (ι 9) M) (ι 20) (ι 1) (ι 2) (ι 21) (ι 22) (ι 23) (ι 24) (ι 25) (ι 26) (ι 27) (ι 28) (cB + C_sm (C_c sz) 8) (eB + C_sm (C_e sz) 8) [] M M1) (hC : P_C (ι 20) (ι 1) (ι 2) (ι 21) (ι 22) (ι 23) (ι 24) (ι 25) (ι 26) (ι 27) (ι 28) (ι 29) (ι 30) sv oa (ι 31) (ι 32) (ι 33) (ι 34) (ι 39) (ι 6) (ι 7) (ι 8) (ι 9) (cB + C_sm (C_c sz) 8) (eB + C_sm (C_e sz) 8) M1) : C_H ι κ al sz cB eB st D gv M1 ∧ C_fx Ck_p ι M M1 := by
  obtain ⟨⟨k, z2, z3, z4, z5, z6⟩, hP1, hou, htp⟩ := hU
  obtain ⟨-, -, -, ⟨c1, c2, c3, c4⟩, c5, -⟩ := hC
  have hsc : ∀ a ∈ Ck_p, a ∈ Ck_sc := by decide
  refine ⟨h.kF k hP1 (fun y hy => ?_) (fun q hq => z4 q (by omega)) fun l hl h1 hS => ?_, k.1, k.2.1, fun a ha h1 hn => h.1.sm h.2.2.1 k ha h1 fun z => ?_⟩
  · obtain ⟨a, ha, e⟩ := h.pBk hy
    exact ⟨a, hsc a ha, e⟩
  · obtain ⟨a, ha, e⟩ := h.pBk hS
    have e := h.2.1.1 _ (Ck_r_k l hl).1 a (Ck_sc_k a (hsc a ha)).1 e
    have hx : ∀ l ∈ Ck_r, l.1 ∈ Ck_p → l.1 = 20 ∨ l = (6, 0, 1) ∨ l = (6, 1, 2) ∨ l = (6, 2, 7) ∨ l = (7, 1, 8) ∨ l = (7, 2, 9) ∨ l = (21, 1, 22) ∨ l = (21, 2, 23) ∨ l = (24, 1, 25) ∨ l = (24, 2, 26) ∨ l = (27, 0, 2) ∨ l = (28, 0, 2) := by decide
    rcases hx l hl (by rw [e]; exact ha) with e | e | e | e | e | e | e | e | e | e | e | e
    · rw [e]
      exact z3 _
    all_goals rw [h.1.2.1 l hl]; subst e
    · exact c2
    · exact c3
    · exact c4
    · exact c5.2.1
    · exact c5.2.2.1
    · exact z5.2.1
    · exact z5.2.2.1
    · exact htp.2.1
    · exact htp.2.2.1
    · exact hou
    · exact z6
  · obtain ⟨a2, ha2, e⟩ := h.pBk z
    have e := h.2.1.1 _ ha a2 (Ck_sc_k a2 (hsc a2 ha2)).1 e
    rw [← e] at ha2
    exact hn ha2
end CPL
