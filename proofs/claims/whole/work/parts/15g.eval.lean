/-! STAGES: the reference's values of expressions -/
section EVAL
variable {m b : Nat} {F : Int → Int} {M M1 : g_M} {lo : Int} {x : List Int}
def E_VF (m b : Nat) (lo : Int) (y : Nat) (k : Int) : Prop := (y = m ∧ 26 ≤ k ∧ k ≤ 29) ∨ (y = b ∧ lo ≤ k ∧ k < 2706200)
/-- what is told of an expression's value: where it stands; a new row stands at the loose place -/
def E_ret (F : Int → Int) (B1 : Int → Int) (n : Nat) (e : b_E) (es : List b_E) (pe dc lo lo1 v : Int) : Prop := (V_of n e es = none ∧ v = -1 ∧ lo1 = lo) ∨ ∃ y, V_of n e es = some y ∧ ((lo1 = lo ∧ ∃ nm, b_st F 922000 v 30 y.1 nm y.2.2 ∧ ((v = pe ∧ y = e ∧ nm = e.2.1) ∨ (dc ≤ v ∧ v + (b_el y.1 nm y.2.2).length ≤ dc + (b_doc es).length))) ∨ (v = lo ∧ y.1 = 4 ∧ lo1 = lo + (b_el 4 [] y.2.2).length ∧ b_at B1 lo (b_el 4 [] y.2.2)))
theorem e_valueAt {n dd D De : Nat} {Q : Int → g_M → Prop} {pe dc : Int} {e : b_E} {es : List b_E} (hdd : D + 11 ≤ dd) (hR : e_R M m b) (hF : ∀ k, k < 922000 → g_i M b k = F k) (he : b_st F 922000 pe De e.1 e.2.1 e.2.2) (hef : S_ef e = false) (hd : E_ct F dc D es) (hDn : D ≤ n) (hD : D ≤ 30) (hDe : De ≤ 30) (hl : (b_doc es).length ≤ 15000) (hgd : X_gd 30 es) (h26 : g_i M m 26 = lo) (hlo : 2606200 ≤ lo) (hlo2 : lo + (b_doc es).length + 2 ≤ 2706200) (hq : ∀ M1 v lo1, e_fr (E_VF m b lo) M M1 → g_i M1 m 26 = lo1 → lo ≤ lo1 → lo1 ≤ lo + (b_doc es).length + 2 → E_ret F (g_i M1 b) n e es pe dc lo lo1 v → Q v M1) : g_Call dd 327 [.ref m, g_n pe, g_n dc] M (g_qI Q) := by
  obtain ⟨d, rfl⟩ : ∃ d, dd = d + 11 := ⟨dd - 11, by omega⟩
  have hmb : m ≠ b := g_neOA hR.1 hR.2.2
  have heR := he.R (by decide)
  have hd4 := hd.2.1
  have hd5 := hd.2.2.1
  have hdcR : g_InR dc := ⟨by omega, by omega⟩
  refine m_X12_valueAt heR hdcR fun hok0 => ⟨hR.1, e_isRef (d := d + 6) hR (he.upW hF) ?_⟩
  intro _ _ _
  by_cases hdol : S_dol e = true
  · rw [if_pos hdol]
    obtain ⟨hk, hts⟩ := S_dol_tx hdol
    have hpl : p_plain (S_pt e) := by
      refine Classical.byContradiction fun hno => ?_
      unfold S_ef at hef
      rw [hdol, F_pl_f hno] at hef
      exact absurd hef (by decide)
    have hV : V_of n e es = (V_res (p_sp (S_pt e)) es).map (V_at n) := if_pos hdol
    obtain ⟨t1, -, t3, -⟩ := he.text hk
    rw [hts, List.length_cons] at t1
    have hpb : b_at F (pe + 2 + e.2.1.length + 5) (S_pt e) := by
      rw [hts] at t3
      have := (b_cons.mp t3).2
      rwa [show pe + 2 + (e.2.1.length : Int) + 4 + 1 = pe + 2 + e.2.1.length + 5 by omega] at this
    have he5 := he.2.2.2.2
    have he4 := he.2.2.2.1
    have hel := b_el_len e.1 e.2.1 e.2.2
    refine ⟨fun g => absurd g (by decide), fun _ => e_vl2 (d := d + 8) hR (he.upW hF) ?_⟩
    intro _ _ _
    refine ⟨⟨by omega, by omega⟩, e_textEnd (d := d + 7) hR (he.upW hF) hk ?_⟩
    rw [hts, List.length_cons]
    intro _ _ _
    obtain ⟨w4, hw4⟩ : ∃ w, w = g_i M m 4 := ⟨_, rfl⟩
    have hsame : ∀ {M1 : g_M}, e_fr (E_RS m) M M1 → e_fr (E_VF m b lo) M M1 ∧ g_i M1 m 26 = lo := fun f => ⟨f.up fun y k z => Or.inl ⟨z.1, by have := z.2; omega, by have := z.2; omega⟩, by rw [f.2.1 m 26 fun z => by have := z.2; omega]; exact h26⟩
    refine e_resolve (d := d + 4) hR hF hd hpb (by omega) (by omega) (by omega) hl (fun hn M2 f2 h27 => ?_) (fun e1 q1 D1 hn _ hD1 hb hlc1 hlc2 M2 f2 h27 h28 => ?_) fun e1 r1 q1 f29 D1 zr hn hr1 hD1 hb hb4 hbl hz9 h90 h9t hre M2 f2 h27 h28 h29 => ?_
    · intro _ _
      rw [hn] at hV
      obtain ⟨f2', h26'⟩ := hsame f2
      rw [h27]
      exact ⟨fun _ => ⟨fun _ => hq M2 (-1) lo f2' h26' (Int.le_refl _) (by omega) (Or.inl ⟨hV, rfl, rfl⟩), fun g => absurd rfl g⟩, fun g => absurd (by decide) g⟩
    · intro _ _
      rw [hn] at hV
      have hV2 : V_of n e es = some e1 := hV
      obtain ⟨f2', h26'⟩ := hsame f2
      rw [h27, h28]
      exact ⟨fun _ => ⟨fun g => absurd g (by decide), fun _ => hq M2 q1 lo f2' h26' (Int.le_refl _) (by omega) (Or.inr ⟨e1, hV2, Or.inl ⟨rfl, e1.2.1, hb.le (by omega), Or.inr ⟨hlc1, hlc2⟩⟩⟩)⟩, fun g => absurd (by decide) g⟩
    · intro _ hok2
      rw [hn] at hV
      have hV2 : V_of n e es = some (4, [], b_doc (V_rows n (p_sp zr) (b_ch e1.2.2))) := by
        rw [hV]
        show some (V_at n (e1, r1)) = _
        unfold V_at
        rw [if_neg (by cases r1 with | nil => exact absurd rfl hr1 | cons _ _ => simp), hre]
      have hlen : (b_doc (V_rows n (p_sp zr) (b_ch e1.2.2))).length ≤ (b_doc es).length := by
        obtain ⟨a1, a2, a3, a4, -⟩ := V_res_good (p_sp (S_pt e)) 30 es (e1, r1) hgd (by rw [b_doc_len] at hl; omega) hn
        have h9 := (V_at_good (n := n) a1 a2 a4 (by show e1.2.2.length ≤ 15000; omega)).2.2
        have h8 : V_at n (e1, r1) = (4, [], b_doc (V_rows n (p_sp zr) (b_ch e1.2.2))) := by
          unfold V_at
          rw [if_neg (by cases r1 with | nil => exact absurd rfl hr1 | cons _ _ => simp), hre]
        rw [h8] at h9
        have h7 : (b_doc (V_rows n (p_sp zr) (b_ch e1.2.2))).length ≤ e1.2.2.length := h9
        have a3' : e1.2.2.length + 2 ≤ (b_ser es).length := a3
        rw [b_doc_len es]
        omega
      obtain ⟨f2', h26'⟩ := hsame f2
      have hR2 := f2.R hR
      have hF2 : ∀ k, k < 922000 → g_i M2 b k = F k := fun k hk => by
        rw [f2.2.1 b k fun w => hmb w.1.symm]
        exact hF k hk
      rw [h27]
      refine ⟨fun g => absurd g (by decide), fun _ => ?_⟩
      rw [h26']
      refine e_write (d := d + 9) hR2 (by omega) (by omega) (by decide) fun M3 f3 W3 => ?_
      intro _ _
      have hmk3 : ∀ k, 7 ≤ k → g_i M3 m k = g_i M2 m k := fun k hk => f3.2.1 m k fun w => by have := w.2; omega
      have hb3 : g_i M3 b = g_i M2 b := funext fun k => f3.2.1 b k fun w => hmb w.1.symm
      refine e_put (d := d + 9) W3 ⟨by decide, by decide⟩ fun M4 f4 W4 => ?_
      intro _ _
      refine e_put (d := d + 9) W4 ⟨by decide, by decide⟩ fun M5 f5 W5 => ?_
      intro _ _
      have f35 := f4.tr f5
      have hmk5 : ∀ k, 7 ≤ k → g_i M5 m k = g_i M2 m k := fun k hk => by
        rw [f35.2.1 m k fun w => ?_]
        · exact hmk3 k hk
        · rcases w with ⟨-, w⟩ | ⟨w, -⟩
          · omega
          · exact hmb w
      have hF5 : ∀ k, k < 922000 → g_i M5 b k = F k := fun k hk => by
        rw [f35.2.1 b k fun w => ?_]
        · rw [hb3]
          exact hF2 k hk
        · rcases w with ⟨w, -⟩ | ⟨-, w, -⟩
          · exact hmb w.symm
          · omega
      rw [hmk5 28 (by decide), hmk5 29 (by decide), h28, h29]
      refine e_putValues D1 (n := n) (F := F) (lo := lo) (by omega) (by omega) (by omega) ⟨W5, hlo, hF5⟩ hb hb4 hbl rfl hz9 h90 (by rw [h9t]) (by omega) fun M6 f6 g6 => ?_
      intro _ _
      have ew : [] ++ [g_w8 4] ++ [g_w8 0] ++ b_doc (V_rows n (p_sp zr) (b_ch e1.2.2)) = b_el 4 [] (b_doc (V_rows n (p_sp zr) (b_ch e1.2.2))) := by
        unfold b_el
        simp [g_w8_of]
      obtain ⟨W6, -, hF6⟩ := g6
      rw [ew] at W6
      have hl6 := b_el_len 4 [] (b_doc (V_rows n (p_sp zr) (b_ch e1.2.2)))
      rw [List.length_nil] at hl6
      obtain ⟨w1, w2⟩ := W6.at (by omega)
      have h60 : g_i M2 m 6 = 0 ∨ g_i M2 m 6 = 1 := hok2.2 m _ hR2.1 6 (by decide)
      have hWL : ∀ {y : Nat} {k : Int}, e_WL m b lo 2706200 y k → (y = m ∧ (k = 4 ∨ k = 5 ∨ k = 6 ∨ (26 ≤ k ∧ k ≤ 29))) ∨ (y = b ∧ lo ≤ k ∧ k < 2706200) := fun h => by
        rcases h with ⟨h1, h2⟩ | h
        · exact Or.inl ⟨h1, by omega⟩
        · exact Or.inr h
      have fT : e_fr (fun y k => (y = m ∧ (k = 4 ∨ k = 5 ∨ k = 6 ∨ (26 ≤ k ∧ k ≤ 29))) ∨ (y = b ∧ lo ≤ k ∧ k < 2706200)) M M6 := (((f2.up fun y k z => Or.inl ⟨z.1, by have := z.2; omega⟩).tr (f3.up fun y k z => Or.inl ⟨z.1, by have := z.2; omega⟩)).tr (f35.up fun y k z => hWL z)).tr (f6.up fun y k z => by
        rcases z with z | z
        · exact hWL z
        · exact Or.inl ⟨z.1, by have := z.2; omega⟩)
      have h2k : ∀ k, k < 26 → g_i M2 m k = g_i M m k := fun k hk => f2.2.1 m k fun z => by have := z.2; omega
      rintro M33 rfl _ M37 rfl _ M41 rfl _
      refine ⟨h60, ?_⟩
      rintro M46 rfl _
      have hlim := b_el_len 4 [] (b_doc (V_rows n (p_sp zr) (b_ch e1.2.2)))
      have hbfin : ∀ k, g_i (g_wi (g_wi (g_wi (g_wi M6 m 26 (g_i M6 m 4)) m 4 (g_i M2 m 4)) m 5 (g_i M2 m 5)) m 6 (g_i M2 m 6)) b k = g_i M6 b k := fun k => by
        rw [g_i_wi, if_neg fun z => hmb z.1.symm, g_i_wi, if_neg fun z => hmb z.1.symm, g_i_wi, if_neg fun z => hmb z.1.symm, g_i_wi, if_neg fun z => hmb z.1.symm]
      refine hq _ lo (lo + (b_el 4 [] (b_doc (V_rows n (p_sp zr) (b_ch e1.2.2)))).length) ⟨fT.1, fun y k hy => ?_, fT.2.2⟩ ?_ (by omega) (by omega) (Or.inr ⟨_, hV2, Or.inr ⟨rfl, rfl, rfl, b_at_keep w1 fun k _ _ => hbfin k⟩⟩)
      · by_cases h6' : y = m ∧ k = 6
        · rw [h6'.1, h6'.2, g_i_wi, if_pos ⟨rfl, rfl⟩]
          exact h2k 6 (by decide)
        · rw [g_i_wi, if_neg h6']
          by_cases h5' : y = m ∧ k = 5
          · rw [h5'.1, h5'.2, g_i_wi, if_pos ⟨rfl, rfl⟩]
            exact h2k 5 (by decide)
          · rw [g_i_wi, if_neg h5']
            by_cases h4' : y = m ∧ k = 4
            · rw [h4'.1, h4'.2, g_i_wi, if_pos ⟨rfl, rfl⟩]
              exact h2k 4 (by decide)
            · rw [g_i_wi, if_neg h4']
              by_cases h26'' : y = m ∧ k = 26
              · exact absurd (Or.inl ⟨h26''.1, by omega, by omega⟩) hy
              · rw [g_i_wi, if_neg h26'']
                refine fT.2.1 y k fun z => ?_
                rcases z with ⟨z1, z2⟩ | z
                · rcases z2 with z2 | z2 | z2 | z2
                  · exact h4' ⟨z1, z2⟩
                  · exact h5' ⟨z1, z2⟩
                  · exact h6' ⟨z1, z2⟩
                  · exact hy (Or.inl ⟨z1, z2⟩)
                · exact hy (Or.inr z)
      · rw [g_i_wi, if_neg (by omega), g_i_wi, if_neg (by omega), g_i_wi, if_neg (by omega), g_i_wi, if_pos ⟨rfl, rfl⟩, w2]
  · rw [if_neg hdol]
    have hV : V_of n e es = some e := if_neg hdol
    exact ⟨fun _ => hq M pe lo (e_fr.rf _ _) h26 (Int.le_refl _) (by omega) (Or.inr ⟨e, hV, Or.inl ⟨rfl, e.2.1, he.le hDe, Or.inl ⟨rfl, rfl, rfl⟩⟩⟩), fun g => absurd rfl g⟩
end EVAL
