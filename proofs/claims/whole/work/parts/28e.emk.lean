/-! INDEX, THE REFERENCE: which paths are many-keyed -/
section EMK
variable {m b l d pa pe dn mn : Nat} {F : Int → Int} {M : g_M} {L : List Int}
theorem E_S.offm {M1 : g_M} {k v : Int} (hS : E_S m b l F M L) (h1 : mn ≠ m) (h2 : mn ≠ l) (h3 : mn ≠ b) (hM : M1 = g_wi M mn k v) : E_S m b l F M1 L := by
  obtain ⟨a1, a2, a3, a4, a5, a6, a7⟩ := hS
  subst hM
  refine ⟨⟨a1.1, a1.2.1, a1.2.2⟩, a2, a3, ?_, b_at_keep a5 fun q _ _ => ?_, ?_, a7⟩
  · rw [g_i_wi, if_neg (fun z => h1 z.1.symm)]
    exact a4
  · rw [g_i_wi, if_neg (fun z => h2 z.1.symm)]
  · rw [← a6]
    funext q
    rw [g_i_wi, if_neg (fun z => h3 z.1.symm)]
theorem g_or_b1 {v : Int} (h : v = 0 ∨ v = 1) : g_or v 1 = 1 := by rcases h with g | g <;> rw [g] <;> decide +kernel
theorem g_or_b0 {v : Int} (h : v = 0 ∨ v = 1) : g_or v 0 = v := by rcases h with g | g <;> rw [g] <;> decide +kernel
theorem I_tl2_01 {x : Int} (b : Bool) (h : x = 0 ∨ x = 1) : I_tl2 x b = 0 ∨ I_tl2 x b = 1 := by
  cases b
  · exact h
  · exact Or.inr rfl
theorem e_marks {Q : g_M → Prop} {c tl m1 m2 : Int} {x : Nat} {V : I_V} {es : List b_E} (hS : E_S m b l F M L) (hV : R_V m pa pe dn F x V M) (hct : E_ct F c 15 es) (hdl : (b_doc es).length ≤ 2000) (hno : b_at F 2706200 [10, 0]) (hL : L.length ≤ 1000) (ht : tl = 0 ∨ tl = 1) (h40 : g_i M m 40 = tl) (hmn : g_r M m 39 = some mn) (hmA : g_A M mn 2 16) (hnd : mn ≠ dn) (h1 : g_i M mn ((2 * x : Nat) : Int) = m1) (h2 : g_i M mn ((2 * x + 1 : Nat) : Int) = m2) (hm1 : m1 = 0 ∨ m1 = 1) (hm2 : m2 = 0 ∨ m2 = 1) (hq : ∀ M1, e_fr (fun y k => E_le m l y k ∨ (y = mn ∧ (k = ((2 * x : Nat) : Int) ∨ k = ((2 * x + 1 : Nat) : Int)))) M M1 → E_S m b l F M1 L → g_i M1 mn ((2 * x : Nat) : Int) = (if 1 < (I_u c es V.2.2.1).length then 1 else m1) → g_i M1 mn ((2 * x + 1 : Nat) : Int) = (if 1 < (I_u2 V c es).length then 1 else m2) → (g_i M1 m 40 = 0 ∨ g_i M1 m 40 = 1) → Q M1) : g_Call (d + 72) 362 [.ref m, g_n x, g_n c] M (g_qV Q) := by
  have hcR : g_InR c := by
    have h1 := hct.2.1
    have h2 := hct.2.2.1
    exact ⟨by omega, by omega⟩
  obtain ⟨⟨a1, a2, a3, a4, a5, a6⟩, b1, -, b3, b4, -⟩ := id hV
  have h10 : g_i M m 10 = L.length := hS.2.2.2.1
  have hmm : mn ≠ m := fun z => g_neOA hS.1.1 hmA z.symm
  have hml : mn ≠ l := fun z => by
    rw [z] at hmA
    exact absurd (hmA.fn hS.2.2.1).1 (by decide)
  have hmb : mn ≠ b := fun z => by
    rw [z] at hmA
    exact absurd (hmA.fn hS.1.2.2).1 (by decide)
  have hSm : ∀ k, ¬ E_le m l mn k := fun k z => z.elim hml fun z => hmm z.1
  have hpm : pa ≠ mn := fun z => by
    rw [z] at a2
    exact absurd (a2.fn hmA).1 (by decide)
  obtain ⟨⟨q1, -, -⟩, q4, -, -⟩ := hV.ne hS.1.1 hS.2.2.1
  have hSp : ∀ k, ¬ E_le m l pa k := fun k z => z.elim q1 fun z => q4 z.1
  have c0 : (2 : Int) * x = ((2 * x : Nat) : Int) := by omega
  have c1 : ((2 * x : Nat) : Int) + 1 = ((2 * x + 1 : Nat) : Int) := by omega
  refine m_X12_marks ⟨by omega, by omega⟩ hcR fun _ => ⟨hS.1.1, e_entriesOf (d := d + 1) hS hV hct hdl hno hL ht h40 fun M2 P1 P2 f2 hPP S2 u1 u2 w40 _ w42 w43 w44 => ?_⟩
  obtain ⟨T1, T2, hP1, -⟩ := hPP
  intro _ _ _
  have hmn2 : g_r M2 m 39 = some mn := by rw [f2.2.2]; exact hmn
  have hmA2 := f2.A hmA
  rw [c0, h10]
  have hv1 : g_i M2 mn ((2 * x : Nat) : Int) = m1 := by rw [f2.2.1 mn _ (hSm _)]; exact h1
  have hv2 : g_i M2 mn ((2 * x + 1 : Nat) : Int) = m2 := by rw [f2.2.1 mn _ (hSm _)]; exact h2
  have hsub : g_i M2 m 44 - g_i M2 m 43 = (I_u2 V c es).length := by
    rw [w44, w43, List.length_append (as := P1 ++ (I_u c es V.2.2.1).map (L_on 2706200) ++ P2), List.length_map]
    omega
  have h34 : ∀ w0 : Int, w0 = 0 ∨ w0 = 1 → g_or m1 w0 = (if 1 < (I_u c es V.2.2.1).length then 1 else m1) → g_Run (d + 71) 362 34 [(0, .ref m), (1, g_n x), (2, g_n c), (3, g_n L.length)] [g_n w0, g_n m1, g_n ((2 * x : Nat) : Int), .ref mn] M2 (g_qV Q) := by
    intro w0 hw0 hor
    have hm1R : g_InR m1 := by rcases hm1 with g | g <;> rw [g] <;> exact ⟨by decide, by decide⟩
    have hw0R : g_InR w0 := by rcases hw0 with g | g <;> rw [g] <;> exact ⟨by decide, by decide⟩
    have hor01 : g_or m1 w0 = 0 ∨ g_or m1 w0 = 1 := by
      rw [hor]
      split
      · exact Or.inr rfl
      · exact hm1
    refine s_X12_marks_34 ⟨by omega, by omega⟩ hcR ⟨by omega, by omega⟩ hw0R hm1R ⟨by omega, by omega⟩ fun _ => ⟨16, hmA2, ⟨by omega, by omega⟩, hor01, fun M5 e5 _ => ?_⟩
    rw [hor] at e5
    have fm : ∀ {M3 M4 : g_M} {k v : Int}, (k = ((2 * x : Nat) : Int) ∨ k = ((2 * x + 1 : Nat) : Int)) → M4 = g_wi M3 mn k v → e_fr (fun y k => E_le m l y k ∨ (y = mn ∧ (k = ((2 * x : Nat) : Int) ∨ k = ((2 * x + 1 : Nat) : Int)))) M3 M4 := by
      intro M3 M4 k v hk e
      rw [e]
      exact e_fr.wi v (Or.inr ⟨rfl, hk⟩)
    have F5 : e_fr (fun y k => E_le m l y k ∨ (y = mn ∧ (k = ((2 * x : Nat) : Int) ∨ k = ((2 * x + 1 : Nat) : Int)))) M M5 := (f2.up fun _ _ z => Or.inl z).tr (fm (Or.inl rfl) e5)
    have hm5 : ∀ k, g_i M5 m k = g_i M2 m k := fun k => by rw [e5, g_i_wi, if_neg (fun z => hmm z.1.symm)]
    have hp5 : ∀ k, g_i M5 pa k = g_i M pa k := fun k => by
      rw [e5, g_i_wi, if_neg (fun z => hpm z.1)]
      exact f2.2.1 pa k (hSp k)
    have hS5 := S2.offm hmm hml hmb e5
    have hmn5 : g_r M5 m 39 = some mn := by rw [F5.2.2]; exact hmn
    have hmA5 := F5.A hmA
    have hv5 : g_i M5 mn ((2 * x + 1 : Nat) : Int) = m2 := by
      rw [e5, g_i_wi, if_neg (fun z => by have := z.2; omega)]
      exact hv2
    have hw5 : g_i M5 mn ((2 * x : Nat) : Int) = (if 1 < (I_u c es V.2.2.1).length then 1 else m1) := by rw [e5, g_i_wi, if_pos ⟨rfl, rfl⟩]
    have hS5' : E_S m b l F M5 (L ++ (T1 ++ ((I_u c es V.2.2.1).map (L_on 2706200) ++ (P2 ++ (I_u2 V c es).map (L_on 2706200))))) := by
      rw [hP1] at hS5
      simpa using hS5
    -- the end
    have hend : ∀ (M45 M49 : g_M) (v : Int), v = (if 1 < (I_u2 V c es).length then 1 else m2) → M45 = g_wi M5 mn ((2 * x + 1 : Nat) : Int) v → M49 = g_wi M45 m 10 L.length → Q M49 := by
      intro M45 M49 v hv e45 e49
      have hS45 := hS5'.offm hmm hml hmb e45
      obtain ⟨hS49, f49⟩ := hS45.cut
      rw [← e49] at hS49 f49
      have hne : ∀ k, g_i M49 mn k = g_i M45 mn k := fun k => by rw [e49, g_i_wi, if_neg (fun z => hmm z.1)]
      refine hq M49 ((F5.tr (fm (Or.inr rfl) e45)).tr (f49.up fun _ _ z => Or.inl z.lk.le)) hS49 ?_ ?_ ?_
      · rw [hne, e45, g_i_wi, if_neg (fun z => by have := z.2; omega)]
        exact hw5
      · rw [hne, e45, g_i_wi, if_pos ⟨rfl, rfl⟩]
        exact hv
      · have h1 : g_i M49 m 40 = g_i M2 m 40 := by rw [e49, g_i_wi, if_neg (fun z => by have := z.2; omega), e45, g_i_wi, if_neg (fun z => hmm z.1.symm), hm5]
        rw [h1, w40]
        exact I_tl2_01 _ (I_tl_01 ht _)
    have hor2 : (g_or m2 1 = 0 ∨ g_or m2 1 = 1) ∧ (g_or m2 0 = 0 ∨ g_or m2 0 = 1) := by
      rw [g_or_b1 hm2, g_or_b0 hm2]
      exact ⟨Or.inr rfl, hm2⟩
    rw [c0, c1, hm5 44, hm5 43, hsub]
    refine ⟨hS5.1.1, mn, hmn5, ⟨by omega, by omega⟩, ⟨by omega, by omega⟩, 16, hmA5, ⟨by omega, by omega⟩, pa, by rw [F5.2.2]; exact a1, 8, F5.A a2, ⟨by omega, by omega⟩, ?_⟩
    rw [hp5 x, hv5]
    refine ⟨fun g => ⟨⟨by omega, by omega⟩, fun g2 => ⟨⟨by omega, by omega⟩, hor2.1, fun M45 e45 _ M49 e49 _ => ?_⟩, fun g2 => ⟨⟨by omega, by omega⟩, hor2.2, fun M45 e45 _ M49 e49 _ => ?_⟩⟩, fun g => ⟨⟨by omega, by omega⟩, hor2.2, fun M45 e45 _ M49 e49 _ => ?_⟩⟩
    · rw [g_or_b1 hm2] at e45
      exact hend M45 M49 1 (by rw [if_pos (by omega)]) e45 e49
    · rw [g_or_b0 hm2] at e45
      exact hend M45 M49 m2 (by rw [if_neg (by omega)]) e45 e49
    · rw [g_or_b0 hm2] at e45
      have hn : V.2.2.2 = none := b4.mpr (by omega)
      have hu1 : I_u2 V c es = [none] := by
        unfold I_u2
        rw [hn]
      exact hend M45 M49 m2 (by rw [hu1, List.length_singleton, if_neg (show ¬ 1 < 1 by decide)]) e45 e49
  refine ⟨mn, hmn2, ⟨by omega, by omega⟩, 16, hmA2, ⟨by omega, by omega⟩, ?_⟩
  rw [w42, hv1]
  refine ⟨fun g => h34 1 (Or.inr rfl) (by rw [g_or_b1 hm1, if_pos (by omega)]), fun g => h34 0 (Or.inl rfl) (by rw [g_or_b0 hm1, if_neg (by omega)])⟩
end EMK
