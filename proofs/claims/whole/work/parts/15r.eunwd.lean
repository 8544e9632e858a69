/-! STAGES: $unwind of a document, the reference -/
section EUNWD
variable {m b ma be : Nat} {M0 M M1 : g_M} {lo : Int}
theorem e_Wr.wr {l2 lim : Int} {x : List Int} (h : e_Wr m b l2 lim x M) : w_r l2 lim (g_i M m 4) x.length := by
  rcases h.2.2.2.2 with ⟨-, a2, a3, -⟩ | ⟨-, a2, a3, a4⟩
  · exact ⟨by omega, by omega, Or.inl a2⟩
  · exact ⟨a2, a3, Or.inr a4⟩
theorem e_unwDoc {d De : Nat} {Q : g_M → Prop} {pe dc : Int} {e : b_E} {es : List b_E} {ds : List (List b_E)} (hT : E_T m b ma be M0) (hlo : 802000 ≤ lo) (hlo2 : lo ≤ 862000) (he : b_st (g_i M0 b) 2100 pe De e.1 e.2.1 e.2.2) (hdol : S_dol e = true) (hpl : p_plain (S_pt e)) (hd : b_at (g_i M0 b) dc (b_doc es)) (hd1 : 2000 ≤ dc) (hd2 : dc + (b_doc es).length ≤ 922000) (hd3 : dc + (b_doc es).length ≤ lo ∨ lo + 60000 ≤ dc) (hl : (b_doc es).length ≤ 2000) (hg : X_gd 15 es) (hX : e_fr (E_ST m b ma lo) M0 M) (hW : e_Wr m b lo (lo + 60000) (E_wr ds) M) (hF : E_F m ma lo ds M) (hq : ∀ M1 ds3, e_fr (E_ST m b ma lo) M0 M1 → e_Wr m b lo (lo + 60000) (E_wr ds3) M1 → E_F m ma lo ds3 M1 → (ds3 = ds ++ U_doc (p_sp (S_pt e)) es ∨ (200 < ds3.length ∧ ds3.length ≤ (ds ++ U_doc (p_sp (S_pt e)) es).length)) → Q M1) : g_Call (d + 40) 342 [.ref m, g_n pe, g_n dc] M (g_qV Q) := by
  obtain ⟨n1, n2, n3, n4, n5, n6⟩ := hT.ne
  obtain ⟨hk, hts⟩ := S_dol_tx hdol
  have he4 := he.2.2.2.1
  have he5 := he.2.2.2.2
  have hel := b_el_len e.1 e.2.1 e.2.2
  have hpeR : g_InR pe := ⟨by omega, by omega⟩
  have hdcR : g_InR dc := ⟨by omega, by omega⟩
  have hbk : ∀ {M2 : g_M}, e_fr (E_ST m b ma lo) M0 M2 → ∀ k, k < 922000 → (k < lo ∨ lo + 60000 ≤ k) → g_i M2 b k = g_i M0 b k := fun f k k1 k2 => f.2.1 b k fun z => by
    rcases z with ⟨z, -⟩ | z | ⟨-, z⟩
    · exact n1 z.symm
    · exact n4 z
    · omega
  have hdk : ∀ {M2 : g_M}, e_fr (E_ST m b ma lo) M0 M2 → ∀ k, dc ≤ k → k < dc + (b_doc es).length → g_i M2 b k = g_i M0 b k := fun f k k1 k2 => hbk f k (by omega) (by omega)
  have hreq : ∀ {M2 : g_M}, e_fr (E_ST m b ma lo) M0 M2 → b_st (g_i M2 b) 2706210 pe De e.1 e.2.1 e.2.2 := fun f => ⟨b_at_keep he.1 fun j j1 j2 => hbk f j (by omega) (by omega), he.2.1, he.2.2.1, he4, by omega⟩
  have hct0 : E_ct (g_i M0 b) dc 15 es := ⟨hd, by omega, hd2, hg⟩
  have hctM : E_ct (g_i M b) dc 15 es := ⟨b_at_keep hd fun k k1 k2 => hdk hX k k1 k2, by omega, hd2, hg⟩
  have hwl : ∀ {y : Nat} {k : Int}, e_WL m b lo (lo + 60000) y k → E_ST m b ma lo y k := fun h => by
    rcases h with ⟨h1, h2⟩ | ⟨h1, h2⟩
    · exact Or.inl ⟨h1, by omega⟩
    · exact Or.inr (Or.inr ⟨h1, Or.inl h2⟩)
  have hFw : ∀ {Ma Mb : g_M} {ds : List (List b_E)}, E_F m ma lo ds Ma → e_fr (e_WL m b lo (lo + 60000)) Ma Mb → E_F m ma lo ds Mb := fun h f => h.fr (fun k hk => f.2.1 m k fun z => by
      rcases z with ⟨-, z⟩ | ⟨z, -⟩
      · omega
      · exact n1 z) fun k => f.2.1 ma k fun z => by
      rcases z with ⟨z, -⟩ | ⟨z, -⟩
      · exact n2 z.symm
      · exact n4 z.symm
  have hdel : ∀ {d2 : Nat} {M2 : g_M} {ds2 : List (List b_E)} {es2 : List b_E} {r : Int} {Q2 : g_M → Prop}, g_InR r → e_fr (E_ST m b ma lo) M0 M2 → e_Wr m b lo (lo + 60000) (E_wr (ds2 ++ [es2])) M2 → E_F m ma lo ds2 M2 → w_r lo (lo + 60000) r (E_wr ds2).length → (∀ M3, e_fr (E_ST m b ma lo) M0 M3 → e_Wr m b lo (lo + 60000) (E_wr (ds2 ++ [es2])) M3 → E_F m ma lo (ds2 ++ [es2]) M3 → Q2 M3) → g_Call (d2 + 1) 336 [.ref m, g_n r] M2 (g_qV Q2) := by
    intro d2 M2 ds2 es2 r Q2 hrR f2 W2 F2 hr hq2
    refine e_deliver (d := d2) (es := es2) W2.1 (by rw [f2.2.2]; exact hT.2.1) (f2.A hT.2.2.2.1) hr hrR F2 fun M3 f3 hF3 => ?_
    refine hq2 M3 (f2.tr (f3.up fun y k z => ?_)) (W2.kp f3 (fun k k1 k2 z => ?_) fun k _ _ z => ?_) hF3
    · rcases z with ⟨z, z2⟩ | z
      · exact Or.inl ⟨z, by omega⟩
      · exact Or.inr (Or.inl z)
    · rcases z with ⟨-, z⟩ | z
      · omega
      · exact n2 z
    · rcases z with ⟨z, -⟩ | z
      · exact n1 z.symm
      · exact n4 z
  have hR := hW.1
  obtain ⟨t1, -, t3, -⟩ := (hreq hX).text hk
  rw [hts, List.length_cons] at t1
  have hpb : b_at (g_i M b) (pe + 2 + e.2.1.length + 5) (S_pt e) := by
    rw [hts] at t3
    have := (b_cons.mp t3).2
    rwa [show pe + 2 + (e.2.1.length : Int) + 4 + 1 = pe + 2 + e.2.1.length + 5 by omega] at this
  have hst8 := hpl.1.2.1
  -- no document
  have hrs : ∀ {M2 : g_M}, e_fr (E_RS m) M M2 → e_fr (E_ST m b ma lo) M0 M2 ∧ e_Wr m b lo (lo + 60000) (E_wr ds) M2 ∧ E_F m ma lo ds M2 := fun f => ⟨hX.tr (f.up fun y k z => Or.inl ⟨z.1, by have := z.2; omega⟩), hW.kp f (fun k k1 k2 z => by have := z.2; omega) (fun k _ _ z => n1 z.1.symm), hF.fr (fun k hk => f.2.1 m k fun z => by have := z.2; omega) fun k => f.2.1 ma k fun z => n2 z.1.symm⟩
  have hnil : ∀ {M2 : g_M}, e_fr (E_RS m) M M2 → U_doc (p_sp (S_pt e)) es = [] → Q M2 := fun f hu => by
    obtain ⟨a1, a2, a3⟩ := hrs f
    exact hq _ ds a1 a2 a3 (Or.inl (by rw [hu, List.append_nil]))
  refine m_X12_unwind hpeR hdcR fun _ => ⟨hR.1, e_vl2 (d := d + 37) hR (hreq hX) ?_⟩
  intro _ _ _
  refine ⟨⟨by omega, by omega⟩, e_textEnd (d := d + 36) hR (hreq hX) hk ?_⟩
  rw [hts, List.length_cons]
  intro _ _ _
  refine m_X12_through hdcR ⟨by omega, by omega⟩ ⟨by omega, by omega⟩ fun _ => ⟨hR.1, e_resolve (d := d + 32) (F := g_i M b) hR (fun _ _ => rfl) hctM hpb (by omega) (by omega) (by omega) (by omega) (fun hn M2 f2 h27 => ?_) (fun x q D1 hn hU hD1 hb hlc1 hlc2 M2 f2 h27 h28 => ?_) fun x r1 q f29 D1 zr hn hr1 hD1 hb hb4 hbl hz9 h90 h9t hre M2 f2 h27 h28 h29 => ?_⟩
  · intro _ _
    rw [h27]
    refine ⟨fun z => absurd z (by decide), fun _ => ?_⟩
    intro _ _ _
    refine ⟨fun _ => hnil f2 ?_, fun z => absurd rfl z⟩
    unfold U_doc
    rw [hn]
  · intro _ _
    rw [h27, h28]
    refine ⟨fun _ => ?_, fun z => absurd rfl z⟩
    intro _ _ hqR
    obtain ⟨hX2, hW2, hF2⟩ := hrs f2
    have hR2 := hW2.1
    have hb4' := hb.2.2.2.1
    have hb2 : b_st (g_i M2 b) 2706210 q D1 x.1 x.2.1 x.2.2 := hb.upW fun k hk => by rw [f2.2.1 b k fun w => n1 w.1.symm]
    have hbk' := b_vs_pos (b_gv_vs hb.2.2.1)
    have hU2 : U_doc (p_sp (S_pt e)) es = if x.1 = 10 then [] else if x.1 = 4 then (b_ch x.2.2).map (fun it => U_put (p_sp (S_pt e)) it es) else [es] := by
      unfold U_doc
      rw [hn]
      rfl
    refine ⟨fun z => absurd z (by omega), fun _ => e_kd hR2 hb2 (P := fun w => (w = 10 → _) ∧ (¬ w = 10 → _)) ⟨fun g10 => ?_, fun g10 => e_kd hR2 hb2 (P := fun w => (w = 4 → _) ∧ (¬ w = 4 → _)) ⟨fun g4 => ?_, fun g4 => ?_⟩⟩⟩
    · exact hnil f2 (by rw [hU2, if_pos g10])
    · -- a row
      rw [if_neg g10, if_pos g4] at hU2
      have hb0 : b_st (g_i M0 b) 922000 q D1 x.1 x.2.1 x.2.2 := ⟨b_at_keep hb.1 fun k k1 k2 => (hdk hX k (by omega) (by omega)).symm, hb.2⟩
      obtain ⟨D2, eD2, hkids, hkl⟩ := hb0.kids (Or.inr g4)
      have hxel := b_el_len x.1 x.2.1 x.2.2
      refine e_vl2 (d := d + 37) hR2 hb2 ?_
      intro _ _ _
      refine e_first (d := d + 38) (by omega) (by omega) ?_
      intro _ _ _
      have hlp : ∀ (xs cs1 : List b_E) (q6 : Int) (M3 : g_M) (ds3 : List (List b_E)), b_ch x.2.2 = cs1 ++ xs → q6 = q + 6 + x.2.1.length + (b_ser cs1).length → e_fr (E_ST m b ma lo) M0 M3 → e_Wr m b lo (lo + 60000) (E_wr ds3) M3 → E_F m ma lo ds3 M3 → ds3 = ds ++ cs1.map (fun it => U_put (p_sp (S_pt e)) it es) → g_Run (d + 39) 342 91 [(0, .ref m), (1, g_n pe), (2, g_n dc), (3, g_n (pe + 2 + e.2.1.length + 5)), (4, g_n (pe + 2 + e.2.1.length + 4 + (((S_pt e).length + 1 : Nat) : Int))), (5, g_n q), (6, g_n q6)] [] M3 (g_qV Q) := by
        intro xs
        induction xs with
        | nil =>
          intro cs1 q6 M3 ds3 h1 h2 f3 W3 F3 hds
          have hR3 := W3.1
          have hb3 : b_st (g_i M3 b) 2706210 q D1 x.1 x.2.1 x.2.2 := ⟨b_at_keep hb0.1 fun k k1 k2 => hdk f3 k (by omega) (by omega), hb0.2.1, hb0.2.2.1, hb4', by omega⟩
          obtain ⟨D3, ys, eD3, e2, -, e4, e5, -⟩ := hb3.tl (Or.inr g4)
          rw [e5, List.append_nil] at h1
          subst h1
          have e4' : e_tl (g_i M3 b) (q + 2 + x.2.1.length) (q + 6 + x.2.1.length) D3 ys (ys ++ []) := by rw [List.append_nil]; exact e4
          have e6 := e4'.app
          rw [← h2] at e6
          have hq6 := e6.st
          refine s_X12_unwind_91 hpeR hdcR ⟨by omega, by omega⟩ ⟨by omega, by omega⟩ hqR ⟨by omega, by omega⟩ fun _ => ⟨hR3.1, e_vl2 (d := d + 37) hR3 hb3 fun _ _ _ => e_lastE (d := d + 36) hR3 e6 ?_⟩
          intro _ _ _
          refine ⟨fun z => absurd z (by omega), fun _ => hq M3 ds3 f3 W3 F3 (Or.inl ?_)⟩
          rw [hds, hU2, e5]
        | cons it xs ih =>
          intro cs1 q6 M3 ds3 h1 h2 f3 W3 F3 hds
          have hR3 := W3.1
          have hb3 : b_st (g_i M3 b) 2706210 q D1 x.1 x.2.1 x.2.2 := ⟨b_at_keep hb0.1 fun k k1 k2 => hdk f3 k (by omega) (by omega), hb0.2.1, hb0.2.2.1, hb4', by omega⟩
          obtain ⟨D3, ys, eD3, e2, -, e4, e5, -⟩ := hb3.tl (Or.inr g4)
          have h1' := h1
          rw [e5] at h1'
          have e4' : e_tl (g_i M3 b) (q + 2 + x.2.1.length) (q + 6 + x.2.1.length) D3 ys (cs1 ++ it :: xs) := by rw [← h1']; exact e4
          have e6 := e4'.app
          rw [← h2] at e6
          have hq6 := e6.st
          have hit0 : b_st (g_i M0 b) 922000 q6 D2 it.1 it.2.1 it.2.2 := by
            have := hkids
            rw [h1] at this
            have h9 := this.app.cons.1
            rwa [← h2] at h9
          have hlen := congrArg List.length (congrArg b_ser h1)
          rw [b_ser_app, List.length_append, b_ser_len] at hlen
          have hlu : (U_doc (p_sp (S_pt e)) es).length = (b_ch x.2.2).length := by rw [hU2, List.length_map]
          have hlc := congrArg List.length h1
          rw [List.length_append, List.length_cons] at hlc
          refine s_X12_unwind_91 hpeR hdcR ⟨by omega, by omega⟩ ⟨by omega, by omega⟩ hqR ⟨by omega, by omega⟩ fun hok => ⟨hR3.1, e_vl2 (d := d + 37) hR3 hb3 fun _ _ _ => e_lastC (d := d + 36) hR3 e6 fun r2 hr1 hr2 => fun _ _ _ => ⟨fun _ => ⟨fun g25 => ?_, fun g25 => ?_⟩, fun z => absurd hr1 z⟩⟩
          · have h9 := e_putUnwound (F := g_i M0 b) (dlo := dc) (dhi := dc + (b_doc es).length) (qi := q6) (Di := D2) (it := it) (xr := x) hd3 (by omega) hd2 hit0 (by omega) (by omega) (p_sp (S_pt e)) (dd := d + 39) (M := M3) (Q := fun M12 => g_ext M3 M12 → g_ok M12 → g_Call (d + 39) 336 [.ref m, g_n (g_i M3 m 4)] M12 (g_qV fun M15 => g_ext M12 M15 → g_ok M15 → g_Call (d + 39) 235 [.ref m, g_n q6] M15 (g_qI fun r21 M18 => g_ext M15 M18 → g_ok M18 → g_InR r21 → g_Run (d + 39) 342 91 [(0, .ref m), (1, g_n pe), (2, g_n dc), (3, g_n (pe + 2 + e.2.1.length + 5)), (4, g_n (pe + 2 + e.2.1.length + 4 + (((S_pt e).length + 1 : Nat) : Int))), (5, g_n q), (6, g_n r21)] [] M18 (g_qV Q)))) (by omega) W3 (hdk f3) hct0 (Int.le_refl _) (Int.le_refl _) hn fun M4 f4 W4 => ?_
            · rw [← hU] at h9
              exact h9
            · intro _ _
              have f34 := f3.tr (f4.up fun y k z => hwl z)
              rw [← E_wr_snoc] at W4
              refine hdel (d2 := d + 38) (hok.1 m 4) f34 W4 (hFw F3 f4) W3.wr fun M5 f5 W5 F5 => ?_
              intro _ _
              have hit5 : b_st (g_i M5 b) 2706210 q6 D2 it.1 it.2.1 it.2.2 := ⟨b_at_keep hit0.1 fun k k1 k2 => hdk f5 k (by omega) (by omega), hit0.2.1, hit0.2.2.1, hit0.2.2.2.1, by have := hit0.2.2.2.2; omega⟩
              refine e_bh2 (d := d + 35) W5.1 hit5 ?_
              intro _ _ _
              refine ih (cs1 ++ [it]) _ M5 _ (by rw [h1]; simp) ?_ f5 W5 F5 ?_
              · rw [b_ser_app, List.length_append, b_ser_1]
                omega
              · rw [hds]
                simp
          · have h200 : 200 < ds3.length := by
              rcases F3 with ⟨h, -⟩ | ⟨-, h⟩
              · exact absurd h g25
              · exact h
            refine hq M3 ds3 f3 W3 F3 (Or.inr ⟨h200, ?_⟩)
            rw [hds, List.length_append, List.length_append, List.length_map, hlu]
            omega
      have h0 := hlp (b_ch x.2.2) [] (q + 2 + x.2.1.length + 4) M2 ds rfl (by show q + 2 + (x.2.1.length : Int) + 4 = q + 6 + x.2.1.length + ((0 : Nat) : Int); omega) hX2 hW2 hF2 (by simp)
      exact h0
    · -- something else
      rw [if_neg g10, if_neg g4] at hU2
      have hd2' : b_at (g_i M2 b) dc (b_doc es) := b_at_keep hd fun k k1 k2 => hdk hX2 k k1 k2
      refine e_int4 (d := d + 37) hR2 (by omega) (by omega) ?_
      rw [e_w4doc hd2' (by omega)]
      intro _ _ _
      refine ⟨⟨by omega, by omega⟩, e_putBytes (d := d + 37) hW2 hd2' (by omega) (by omega) (by omega) fun M3 f3 W3 => ?_⟩
      intro _ hok3
      rw [← E_wr_snoc] at W3
      have f23 := hX2.tr (f3.up fun y k z => hwl z)
      have hw4 : g_InR (g_i M2 m 4) := by
        obtain ⟨a1, a2, -⟩ := hW2.wr
        exact ⟨by omega, by omega⟩
      refine hdel (d2 := d + 38) hw4 f23 W3 (hFw hF2 f3) hW2.wr fun M5 f5 W5 F5 => ?_
      intro _ _
      exact hq M5 _ f5 W5 F5 (Or.inl (by rw [hU2]))
  · intro _ _
    rw [h27]
    refine ⟨fun z => absurd z (by decide), fun _ => ?_⟩
    intro _ _ _
    refine ⟨fun _ => hnil f2 ?_, fun z => absurd rfl z⟩
    unfold U_doc
    rw [hn]
    show (if r1.isEmpty = true then _ else []) = []
    rw [if_neg (by cases r1 with | nil => exact absurd rfl hr1 | cons _ _ => simp)]
end EUNWD
