/-! WHAT A REQUEST DOES: the reference finds, counts, deletes -/
section WFC
variable {m d : Nat} {ρ : Nat → Nat} {M M1 M2 : g_M} {S : W_S} {q : Nat → List (Nat × Int × List b_E)} {Q : Int → g_M → Prop} {w : Nat}
def Q_h (p : List b_E → Bool) (l : List (Nat × Int × List b_E)) : List Q_z := l.map fun z => (p z.2.2, z)
theorem Q_h_2 (p : List b_E → Bool) (l : List (Nat × Int × List b_E)) : (Q_h p l).map (fun z => z.2) = l := by
  unfold Q_h
  rw [List.map_map]
  exact List.map_id' l
theorem Q_h_3 (p : List b_E → Bool) (l : List (Nat × Int × List b_E)) : Q_3 (Q_h p l) = Z_h p (R_dn l) := by
  unfold Q_3 Q_h Z_h R_dn
  rw [List.map_map, List.map_map]
  rfl
theorem Q_h_k (p : List b_E → Bool) : ∀ l : List (Nat × Int × List b_E), R_dn (Q_k (Q_h p l)) = Z_k (Z_h p (R_dn l)) := by
  intro l
  unfold R_dn Q_k Q_h Z_k Z_h
  rw [List.filter_map, List.map_map, List.map_map, List.map_map, List.filter_map, List.map_map]
  rfl
/-- what the matching of a filter may change -/
theorem H_E_t {y : Nat} {k : Int} (z : H_E m (ρ 9) (ρ 74) y k) : (y = m ∧ k = 10) ∨ ∃ j ∈ E_pk, y = ρ j := by
  rcases z with (z | ⟨z, hk⟩) | z
  · exact Or.inr ⟨9, by decide, z⟩
  · exact Or.inl ⟨z, hk⟩
  · exact Or.inr ⟨74, by decide, z⟩
theorem W_fcd_e {h : b_E} {De : Nat} (H : E_H m ρ S.1 q S.2.2 M) (hS : E_S m (ρ 0) (ρ 9) (g_i M (ρ 0)) M []) (h40 : g_i M m 40 = 0 ∨ g_i M m 40 = 1) (hw : w < 2) (hd : ∀ w, w < 2 → R_dn (q w) = S.2.1 w) (hok : W_ok S) (he : b_st (g_i M (ρ 0)) 2100 4 De h.1 h.2.1 h.2.2) (hk : h.1 = 3) (hDe : De ≤ 20) (hV : (F_V 20).1 (b_ch h.2.2)) (hK : ((K_F 20).1 (L_ch 4 h) 0).1 = 0) (hq : W_E m ρ M (if h.2.1 = b_tx 74 then W_find 4 w h S else if h.2.1 = b_tx 77 then W_del 4 w h S else W_cnt 4 w h S) Q) : g_Call (d + 232) 413 [.ref m, g_n (4 + 2 + h.2.1.length), g_n w] M (g_qI fun r69 M66 => g_ext M M66 → g_ok M66 → g_InR r69 → g_Call (d + 232) 414 [.ref m] M66 (g_qV fun M71 => g_ext M66 M71 → g_ok M71 → g_Call (d + 232) 255 [.ref m, .ref (4 * 128 + 1), g_n r69] M71 (g_qV fun M74 => g_ext M71 M74 → g_ok M74 → g_Call (d + 232) 236 [.ref m, g_n 4, .ref (4 * 74 + 1)] M74 (g_qI fun r80 M77 => g_ext M74 M77 → g_ok M77 → g_InR r80 → ((r80 = 0 → g_Run (d + 232) 416 199 [(0, .ref m), (1, g_n 4), (2, g_n w), (3, g_n (4 + 2 + h.2.1.length)), (4, g_n r69)] [] M77 (g_qI Q)) ∧ (¬ r80 = 0 → g_Call (d + 232) 417 [.ref m, g_n w] M77 (g_qV fun M82 => g_ext M77 M82 → g_ok M82 → g_Run (d + 232) 416 199 [(0, .ref m), (1, g_n 4), (2, g_n w), (3, g_n (4 + 2 + h.2.1.length)), (4, g_n r69)] [] M82 (g_qI Q)))))))) := by
  obtain ⟨o1, o2, o3, o4⟩ := hok w hw
  have hB := H.1
  have hpk : ∀ j ∈ E_pk, j ∈ E_bf := by decide
  have nm : ∀ {j : Nat}, j ∈ E_bf → ρ j ≠ m := fun hj => hB.nm hj
  have s5 := he.2.2.2.2
  have hel := b_el_len h.1 h.2.1 h.2.2
  have hT : R_tb m (ρ 68) (ρ 71) M := ⟨(hB.at (k := 68) (by decide)).1, (hB.at (k := 68) (by decide)).2, (hB.at (k := 71) (by decide)).1, (hB.at (k := 71) (by decide)).2⟩
  have e1 : ((q w).map fun z => z.2.2) = (S.2.1 w).map Prod.snd := by rw [← (R_dn_3 (q w)).2, hd w hw]
  have hsw := (H.2.2.2.2 w hw).sh
  rw [e1] at hsw
  have hl200 := hsw.2.1.1
  rw [List.length_map] at hl200
  obtain ⟨t0, t1, -⟩ := W_tx
  refine e_match (dd := d + 1) hS hT (hB.at (k := 74) (by decide)).1 (hB.at (k := 74) (by decide)).2 (by omega) hsw he hk hDe hV fun M66 f66 S66 hh => ?_
  intro _ _ _
  have el : (((S.2.1 w).map Prod.snd).filter fun es => (F_X 20).1 (b_ch h.2.2) (3, [], b_doc es)).length = ((S.2.1 w).filter fun z => W_p h z.2).length := by
    rw [List.filter_map, List.length_map]
    rfl
  rw [el]
  have hlf := List.length_filter_le (fun z : Int × List b_E => W_p h z.2) (S.2.1 w)
  obtain ⟨cnt, hcnt⟩ : ∃ cnt : Nat, cnt = ((S.2.1 w).filter fun z => W_p h z.2).length := ⟨_, rfl⟩
  rw [← hcnt]
  rw [← hcnt] at hlf
  have H66 := H.pp f66 fun y k z => by
    rcases H_E_t z with ⟨a, b⟩ | a
    · exact Or.inl ⟨a, by omega⟩
    · exact Or.inr (Or.inl a)
  have n66 : ∀ k : Int, k ≠ 10 → g_i M66 m k = g_i M m k := fun k hk => f66.2.1 m k fun z => by
    rcases H_E_t z with ⟨-, b⟩ | ⟨j, hj, e⟩
    · exact hk b
    · exact nm (hpk j hj) e.symm
  have k66 : E_k m M M66 := ⟨f66.1, f66.2.2, n66 2 (by decide), n66 24 (by decide)⟩
  have b66 : g_i M66 (ρ 0) = g_i M (ρ 0) := funext fun k => f66.2.1 _ _ fun z => by
    rcases H_E_t z with ⟨a, -⟩ | ⟨j, hj, e⟩
    · exact nm (by decide) a
    · have := hB.2.2 0 (by decide) j (hpk j hj) e
      rw [← this] at hj
      exact absurd hj (by decide)
  have S66' : E_S m (ρ 0) (ρ 9) (g_i M66 (ρ 0)) M66 [] := by
    rw [b66]
    exact S66
  refine e_beginAnswer (d := d + 228) H66.1.R fun M71 f71 W71 h77 => ?_
  intro _ _
  have H71 := H66.al f71
  refine e_putNumber (d := d + 228) (j := 128) (by decide) W71 ⟨by omega, by omega⟩ fun M74 f74 W74 => ?_
  intro _ _
  have F74 : e_fr (A_L m (ρ 0)) M66 M74 := f71.tr (f74.up fun y k z => A_L.w z)
  have nA : ∀ k : Int, k ≠ 4 → k ≠ 5 → k ≠ 6 → k ≠ 77 → ¬ A_L m (ρ 0) m k := fun k k1 k2 k3 k4 z => by
    rcases z with ⟨-, z⟩ | ⟨z, -⟩
    · omega
    · exact nm (by decide) z.symm
  have nR : ∀ {j : Nat}, j ∈ E_bf → j ≠ 0 → ∀ k, ¬ A_L m (ρ 0) (ρ j) k := fun hj h0 k z => by
    rcases z with ⟨z, -⟩ | ⟨z, -⟩
    · exact nm hj z
    · exact h0 (hB.2.2 _ hj _ (by decide) z)
  have h7774 : g_i M74 m 77 = g_i M71 m 77 := f74.2.1 m 77 fun z => by
    rcases z with ⟨-, z⟩ | ⟨z, -⟩
    · omega
    · exact nm (by decide) z.symm
  have hat : ∀ {M3 : g_M}, e_fr (A_L m (ρ 0)) M66 M3 → b_at (g_i M3 (ρ 0)) 4 (b_el h.1 h.2.1 h.2.2) := fun f => b_at_keep he.1 fun k k1 k2 => by
    rw [f.2.1 _ _ fun z => ?_, b66]
    rcases z with ⟨z, -⟩ | ⟨-, z, -⟩
    · exact nm (by decide) z
    · omega
  have S3 : ∀ {M3 : g_M}, e_fr (A_L m (ρ 0)) M66 M3 → E_S m (ρ 0) (ρ 9) (g_i M3 (ρ 0)) M3 [] := fun f => S66'.fx f (nA 10 (by decide) (by decide) (by decide) (by decide)) (nR (by decide) (by decide))
  have a40 : ∀ {M3 : g_M}, e_fr (A_L m (ρ 0)) M66 M3 → (g_i M3 m 40 = 0 ∨ g_i M3 m 40 = 1) := fun f => by
    rw [f.2.1 m 40 (nA 40 (by decide) (by decide) (by decide) (by decide)), n66 40 (by decide)]
    exact h40
  have kk : ∀ {M3 : g_M}, e_fr (A_L m (ρ 0)) M66 M3 → E_k m M M3 := fun f => k66.tr (f.k (nA 2 (by decide) (by decide) (by decide) (by decide)) (nA 24 (by decide) (by decide) (by decide) (by decide)))
  rw [t1] at W74
  -- what is no delete ends
  have h199 : ∀ (M3 : g_M) (t : List Int), e_fr (A_L m (ρ 0)) M66 M3 → e_Wr m (ρ 0) 2598000 2606000 ([0, 0, 0, 0] ++ t) M3 → g_i M3 m 77 = g_i M71 m 77 → h.2.1 ≠ b_tx 77 → W_E m ρ M ((0, 0), t, S) Q → g_Run (d + 232) 416 199 [(0, .ref m), (1, g_n 4), (2, g_n w), (3, g_n (4 + 2 + h.2.1.length)), (4, g_n cnt)] [] M3 (g_qI Q) := fun M3 t f3 W3 e77 hne hq0 => by
    refine s_X12_does_199 (a0 := m) ⟨by decide, by decide⟩ ⟨by omega, by omega⟩ ⟨by omega, by omega⟩ ⟨by omega, by omega⟩ fun _ => ⟨(H66.al f3).1.1, e_isName (d := d + 228) (j := 77) (by decide) (H66.al f3).1.R (hat f3) he.2.1 (by decide) (by omega) ?_⟩
    intro _ _ _
    rw [if_neg hne]
    refine ⟨fun _ => e_endAnswer (d := d + 229) W3 (by rw [e77]; exact h77) fun M4 f4 W4 => ?_, fun z => absurd rfl z⟩
    obtain ⟨g1, g2⟩ := hq0.okk (kk f3).k2 (S3 f3) (a40 f3) (H66.al f3) hd f4 W4
    exact ⟨fun z _ _ _ => ⟨Or.inr rfl, g1 z⟩, fun z _ _ _ => ⟨Or.inl rfl, g2 z⟩⟩
  refine e_isName (d := d + 228) (j := 74) (by decide) (H66.al F74).1.R (hat F74) he.2.1 (by decide) (by omega) ?_
  intro _ ok77 _
  by_cases g74 : h.2.1 = b_tx 74
  · rw [if_pos g74] at hq ⊢
    refine ⟨fun z => absurd z (by decide), fun _ => ?_⟩
    unfold W_find W_K at hq
    rw [if_pos hK] at hq
    have h74s := ((H66.al F74).2.2.2.2 w hw)
    have hns := h74s.nm
    have e3 : ((q w).map fun z => z.2.1) = (S.2.1 w).map Prod.fst := by
      rw [← hd w hw]
      unfold R_dn
      rw [List.map_map]
      rfl
    rw [e3] at hns
    have hsh := h74s.sh
    rw [e1] at hsh
    refine e_putFound (dd := d + 226) (hd := W_p h) (ds := S.2.1 w) (by omega) ⟨((H66.al F74).1.at (k := 68) (by decide)).1, ((H66.al F74).1.at (k := 68) (by decide)).2, ((H66.al F74).1.at (k := 71) (by decide)).1, ((H66.al F74).1.at (k := 71) (by decide)).2⟩ ((H66.al F74).1.at (k := 72) (by decide)).1 ((H66.al F74).1.at (k := 72) (by decide)).2 ((H66.al F74).1.at (k := 74) (by decide)).1 ((H66.al F74).1.at (k := 74) (by decide)).2 hns hsh (fun k es hk2 => by
      rw [F74.2.1 _ _ (nR (j := 74) (by decide) (by decide) _)]
      exact hh k es hk2) W74 fun M82 f82 W82 => ?_
    intro _ _
    rw [List.append_assoc] at W82
    have F82 : e_fr (A_L m (ρ 0)) M66 M82 := F74.tr (f82.up fun y k z => A_L.w z)
    refine h199 M82 _ F82 W82 ?_ (by rw [g74]; decide) ?_
    · rw [← h7774]
      refine f82.2.1 m 77 fun z => ?_
      rcases z with ⟨-, z⟩ | ⟨z, -⟩
      · omega
      · exact nm (by decide) z.symm
    · have e9 : P_an (((S.2.1 w).filter fun z => W_p h z.2).map F_tel) = b_el 16 (b_tx 29) (b_le4 cnt) ++ b_el 4 (b_tx 30) (b_doc (J_row 0 (((S.2.1 w).filter fun z => W_p h z.2).map F_tel))) := by
        unfold P_an
        rw [List.length_map, hcnt]
      rw [← e9]
      exact hq
  · rw [if_neg g74] at hq ⊢
    refine ⟨fun _ => ?_, fun z => absurd rfl z⟩
    by_cases g77 : h.2.1 = b_tx 77
    · rw [if_pos g77] at hq
      unfold W_del W_K at hq
      rw [if_pos hK, ← hcnt] at hq
      have hgd : H_gd (R_dn (q w)) := by
        rw [hd w hw]
        exact o1
      have h0n : ∀ z ∈ q w, 0 ≤ z.2.1 := fun z hz => (o3 z.2 (by rw [← hd w hw]; exact List.mem_map.mpr ⟨z, hz, rfl⟩)).1
      refine s_X12_does_199 (a0 := m) ⟨by decide, by decide⟩ ⟨by omega, by omega⟩ ⟨by omega, by omega⟩ ⟨by omega, by omega⟩ fun _ => ⟨(H66.al F74).1.1, e_isName (d := d + 228) (j := 77) (by decide) (H66.al F74).1.R (hat F74) he.2.1 (by decide) (by omega) ?_⟩
      intro _ _ _
      rw [if_pos g77]
      have hto : g_Call (d + 159 + 73) 418 [.ref m, g_n w] M74 (g_qV fun M12 => g_ext M74 M12 → g_ok M12 → g_Call (d + 232) 415 [.ref m] M12 (g_qI fun r18 M15 => g_ext M12 M15 → g_ok M15 → g_InR r18 → (r18 = 0 ∨ r18 = 1) ∧ Q r18 M15)) := by
        refine e_takeOut (d := d + 159) (zs := Q_h (W_p h) (q w)) (H66.al F74) (S3 F74) (a40 F74) hw (Q_h_2 _ _).symm (fun i z hi => ?_) hgd h0n (fun x x1 x2 V T m1 m2 e => by rw [hd w hw]; exact o2 x x1 x2 V T m1 m2 e) (ok77.1 m 4) (ok77.1 m 5) fun M12 k12 S12 a12 H12 e4 e5 e6 e77 eb => ?_
        · rw [F74.2.1 _ _ (nR (j := 74) (by decide) (by decide) _)]
          unfold Q_h at hi
          rw [List.getElem?_map] at hi
          cases hy : (q w)[i]? with
          | none =>
            rw [hy] at hi
            exact absurd hi (by simp)
          | some y =>
            rw [hy] at hi
            have hi : (W_p h y.2.2, y) = z := Option.some.inj hi
            rw [← hi]
            exact hh i y.2.2 (by rw [← e1, List.getElem?_map, hy]; rfl)
        · intro _ _
          have W12 : e_Wr m (ρ 0) 2598000 2606000 ([0, 0, 0, 0] ++ b_el 16 (b_tx 29) (b_le4 cnt)) M12 := by
            obtain ⟨-, l1, l2, l3, l4⟩ := W74
            have hb := b_el_len 16 (b_tx 29) (b_le4 (cnt : Int))
            have hb2 : (b_le4 (cnt : Int)).length = 4 := rfl
            have hb3 : (b_tx 29).length ≤ 100 := by decide
            have hb4 : ([0, 0, 0, 0] ++ b_el 16 (b_tx 29) (b_le4 (cnt : Int))).length = 4 + (b_el 16 (b_tx 29) (b_le4 (cnt : Int))).length := by
              rw [List.length_append]
              rfl
            refine ⟨H12.1.R, l1, l2, by rw [e5]; exact l3, Or.inl ?_⟩
            rcases l4 with ⟨z1, z2, z3, z4⟩ | ⟨-, -, -, z⟩
            · exact ⟨e6, by rw [e4]; exact z2, z3, b_at_keep z4 fun k k1 _ => eb k k1⟩
            · omega
          refine e_endAnswer (d := d + 229) W12 (by rw [e77, h7774]; exact h77) fun M4 f4 W4 => ?_
          rw [Q_h_3, hd w hw] at H12
          obtain ⟨g1, g2⟩ := W_E.okk (S1 := (I_lp (I_rem (Z_h (W_p h) (S.2.1 w))) w S.1 (4 * w + 4), H_up S.2.1 w (Z_k (Z_h (W_p h) (S.2.1 w))), S.2.2)) hq ((kk F74).tr k12).k2 S12 a12 H12 (R_dn_up hd (by rw [Q_h_k, hd w hw])) f4 W4
          exact ⟨fun z _ _ _ => ⟨Or.inr rfl, g1 z⟩, fun z _ _ _ => ⟨Or.inl rfl, g2 z⟩⟩
      exact ⟨fun z => absurd z (by decide), fun _ => hto⟩
    · rw [if_neg g77] at hq
      unfold W_cnt W_K at hq
      rw [if_pos hK, ← hcnt] at hq
      exact h199 M74 _ F74 W74 h7774 g77 hq
end WFC
